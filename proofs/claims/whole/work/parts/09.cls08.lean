-- X8_isWorthTrying
abbrev rm_X8_isWorthTrying : Room := { frames := 1, cells := 0, slots := 0, locals := 22 }
theorem hd_X8_isWorthTrying : mHd yX8_isWorthTrying 4 := ⟨by decide +kernel, by decide +kernel, by decide +kernel⟩
theorem DX8_isWorthTrying_0 : ∀ t ∈ ([(0, .lload 4, 2), (2, .iload_n 3, 1), (3, .iconst 1, 1), (4, .iadd, 1), (5, .invokestatic 136, 3), (8, .ldc2_w 121, 3), (11, .lxor, 1), (12, .land, 1), (13, .lstore 6, 2), (15, .lload 6, 2), (17, .invokestatic 123, 3), (20, .aload_n 0, 1), (21, .getfield 48, 3), (24, .iload_n 1, 1), (25, .laload, 1), (26, .invokestatic 123, 3), (29, .iconst 1, 1), (30, .isub, 1), (31, .if_icmp .ge 5, 3), (34, .iconst 0, 1), (35, .ireturn, 1), (36, .iconst 0, 1), (37, .istore 8, 2), (39, .iload 8, 2), (41, .iload_n 1, 1), (42, .if_icmp .ge 43, 3), (45, .iload 8, 2), (47, .bipush 16, 2), (49, .if_icmp .ge 36, 3), (52, .aload_n 0, 1), (53, .getfield 48, 3), (56, .iload 8, 2), (58, .laload, 1), (59, .iload_n 2, 1), (60, .invokestatic 111, 3), (63, .ifCond .eq 16, 3), (66, .iload_n 3, 1), (67, .aload_n 0, 1), (68, .getfield 51, 3), (71, .iload 8, 2), (73, .iaload, 1), (74, .if_icmp .ge 5, 3), (77, .iconst 0, 1), (78, .ireturn, 1), (79, .iinc 8 1, 3), (82, .goto (-43), 3), (85, .iconst 1, 1), (86, .ireturn, 1)] : List (Nat × Instr × Nat)), decode cX8_isWorthTrying t.1 = .ok (t.2.1, t.2.2) := by decide +kernel
noncomputable def f_X8_isWorthTrying_39 (s_t : OS) (b1 : Int32) (b2 : Int32) (b3 : Int32) : Int32 → Option ((Int32) ⊕ (Nat)) := fun b8 => (if b1 ≤ b8 then some (.inr 1) else (if 16 ≤ b8 then some (.inr 1) else if inb b8 16 = true then (f_X10_has (s_t.2.2.2 13 (b8 : Int32).toNatClampNeg) b2).bind (fun x17 => (if x17 = 0 then bnd (b8 + 1 : Int32) (fun v21 => some (.inl v21)) else (if (s_t.2.2.1 14 (b8 : Int32).toNatClampNeg) ≤ b3 then bnd (b8 + 1 : Int32) (fun v24 => some (.inl v24)) else some (.inr 0)))) else none))
noncomputable def f_X8_isWorthTrying (st : OS) (a0 : Int32) (a1 : Int32) (a2 : Int32) (a3 : Int64) : Option (Int32) := (f_X10_first (a2 + 1)).bind (fun x1 => bnd (a3 &&& (x1 ^^^ ((-1))) : Int64) (fun v4 => (f_J13_bitCount_95d88 v4).bind (fun x6 => if inb a0 16 = true then (f_J13_bitCount_95d88 (st.2.2.2 13 (a0 : Int32).toNatClampNeg)).bind (fun x10 => (if (x10 - 1) ≤ x6 then (lpv (f_X8_isWorthTrying_39 st a0 a1 a2) 0).bind (fun x26 => (if x26 = 0 then some 0 else some 1)) else some 0)) else none)))
set_option maxHeartbeats 4000000 in
set_option maxRecDepth 100000 in
theorem w_X8_isWorthTrying_39 {p : Program} {l : Launch} {e : Env} {s : State} {m : MethodId} {args : Array Value} {below : List Frame} {meth : Method} {c : Code} {Q : State → Prop} {G : mG} {h : mM} {q : Nat → Nat} (hq : oinj LX8 q) (X : mX G p m c cX8_isWorthTrying 9 s args RX8) (s_t : OS) (b1 : Int32) (b2 : Int32) (b3 : Int32) : ∀ (z : Int32) (r : Nat), lpv (f_X8_isWorthTrying_39 s_t b1 b2 b3) z = some r → ∀ (H : Heap) (locs : List Loc) (ls : Array Slot), mH G (oset LX8 G q s_t h) s.heap H locs → lv_has ls 9 [(0, .ref (q 15)), (1, .int b1), (2, .int b2), (3, .int b3), (8, .int z)] → (r = 0 → ∀ (H : Heap) (locs : List Loc) (ls : Array Slot), mH G (oset LX8 G q s_t h) s.heap H locs → lv_has ls 9 [] → W p l e rm_X8_isWorthTrying s m args below meth c H locs 0 0 Q (F0 m 77 ls [])) → (r = 1 → ∀ (H : Heap) (locs : List Loc) (ls : Array Slot), mH G (oset LX8 G q s_t h) s.heap H locs → lv_has ls 9 [] → W p l e rm_X8_isWorthTrying s m args below meth c H locs 0 0 Q (F0 m 85 ls [])) → W p l e rm_X8_isWorthTrying s m args below meth c H locs 0 0 Q (F0 m 39 ls []) := by
  refine lpv_rec ?_
  intro z r x hF hx H locs ls hH hl K0 K1
  obtain ⟨b8, hz⟩ : ∃ y, y = z := ⟨_, rfl⟩
  subst hz
  dsimp only [f_X8_isWorthTrying_39] at hF
  refine lv_iload X.x X.b (dk DX8_isWorthTrying_0 23 rfl) (lv_at hl 4 rfl) ?_
  refine lv_iload_n X.x X.b (dk DX8_isWorthTrying_0 24 rfl) rfl (lv_at hl 1 rfl) ?_
  refine lv_icmp_ge (tgt := 85) X.x X.b (dk DX8_isWorthTrying_0 25 rfl) (by decide) (fun c14 => ?_) (fun c14 => ?_)
  · replace hF := if_t hF c14
    have hr9 := lp_r hF hx
    subst hr9
    exact K1 rfl _ _ _ hH (lv_sub hl [] rfl)
  · replace hF := if_f hF c14
    refine lv_iload X.x X.b (dk DX8_isWorthTrying_0 26 rfl) (lv_at hl 4 rfl) ?_
    refine lv_bipush (v := 16) X.x X.b (dk DX8_isWorthTrying_0 27 rfl) (by decide) ?_
    refine lv_icmp_ge (tgt := 85) X.x X.b (dk DX8_isWorthTrying_0 28 rfl) (by decide) (fun c15 => ?_) (fun c15 => ?_)
    · replace hF := if_t hF c15
      have hr9 := lp_r hF hx
      subst hr9
      exact K1 rfl _ _ _ hH (lv_sub hl [] rfl)
    · replace hF := if_f hF c15
      refine lv_aload_n X.x X.b (dk DX8_isWorthTrying_0 29 rfl) rfl (lv_at hl 0 rfl) ?_
      refine og_getR (t := 1) OX8 X hq hH 13 (by decide) rfl kF_X8_48 (dk DX8_isWorthTrying_0 30 rfl) ?_
      refine lv_iload X.x X.b (dk DX8_isWorthTrying_0 31 rfl) (lv_at hl 4 rfl) ?_
      obtain ⟨c16, hF⟩ := gd hF
      refine og_lald X hq hH 13 (by decide) rfl (inb_in c16) (dk DX8_isWorthTrying_0 32 rfl) ?_
      refine lv_iload_n X.x X.b (dk DX8_isWorthTrying_0 33 rfl) rfl (lv_at hl 2 rfl) ?_
      obtain ⟨x17, e18, hF⟩ := bd hF
      refine mr_ci0 hH ⟨rfl, rfl⟩ (mr_runS (As := [.long (s_t.2.2.2 13 (b8 : Int32).toNatClampNeg), .int b2]) (rest := []) X hH (c_X10_has e18) kM_X8_111 kT_X10_has kN_X10 kC_X10_has hd_X10_has ⟨Nat.le_of_ble_eq_true rfl, Nat.le_of_ble_eq_true rfl⟩ rfl hl.1 (Nat.le_of_ble_eq_true rfl) (dk DX8_isWorthTrying_0 34 rfl) ⟨Nat.zero_le _, Nat.zero_le _⟩) (fun r h1 H locs hp hH => ?_)
      obtain ⟨hr1, hr2⟩ := hp; rw [hr1]; rw [hr2] at hH; clear hr1 hr2
      refine lv_if_eq (tgt := 79) X.x X.b (dk DX8_isWorthTrying_0 35 rfl) (by decide) (fun c20 => ?_) (fun c20 => ?_)
      · replace hF := if_t hF c20
        obtain ⟨v21, e22⟩ : ∃ y : Int32, y = b8 + 1 := ⟨_, rfl⟩
        replace hF := bnd_e hF e22
        refine lv_iinc (v := v21) (lv' := [(8, .int v21), (0, .ref (q 15)), (1, .int b1), (2, .int b2), (3, .int b3)]) X.x X.b (dk DX8_isWorthTrying_0 44 rfl) hl (k := 4) rfl (by rw [e22]; rfl) (by decide) rfl (fun ls hl => ?_)
        replace hl : lv_has ls 9 [(0, .ref (q 15)), (1, .int b1), (2, .int b2), (3, .int b3), (8, .int v21)] := lv_sub hl [1, 2, 3, 4, 0] rfl
        refine lv_goto (tgt := 39) X.x X.b (dk DX8_isWorthTrying_0 45 rfl) (by decide) ?_
        exact (lp_l hF hx) _ _ _ hH (lv_sub hl [0, 1, 2, 3, 4] rfl) K0 K1
      · replace hF := if_f hF c20
        refine lv_iload_n X.x X.b (dk DX8_isWorthTrying_0 36 rfl) rfl (lv_at hl 3 rfl) ?_
        refine lv_aload_n X.x X.b (dk DX8_isWorthTrying_0 37 rfl) rfl (lv_at hl 0 rfl) ?_
        refine og_getR (t := 0) OX8 X hq hH 14 (by decide) rfl kF_X8_51 (dk DX8_isWorthTrying_0 38 rfl) ?_
        refine lv_iload X.x X.b (dk DX8_isWorthTrying_0 39 rfl) (lv_at hl 4 rfl) ?_
        refine og_iald X hq hH 14 (by decide) rfl (inb_in c16) (dk DX8_isWorthTrying_0 40 rfl) ?_
        refine lv_icmp_ge (tgt := 79) X.x X.b (dk DX8_isWorthTrying_0 41 rfl) (by decide) (fun c23 => ?_) (fun c23 => ?_)
        · replace hF := if_t hF c23
          obtain ⟨v24, e25⟩ : ∃ y : Int32, y = b8 + 1 := ⟨_, rfl⟩
          replace hF := bnd_e hF e25
          refine lv_iinc (v := v24) (lv' := [(8, .int v24), (0, .ref (q 15)), (1, .int b1), (2, .int b2), (3, .int b3)]) X.x X.b (dk DX8_isWorthTrying_0 44 rfl) hl (k := 4) rfl (by rw [e25]; rfl) (by decide) rfl (fun ls hl => ?_)
          replace hl : lv_has ls 9 [(0, .ref (q 15)), (1, .int b1), (2, .int b2), (3, .int b3), (8, .int v24)] := lv_sub hl [1, 2, 3, 4, 0] rfl
          refine lv_goto (tgt := 39) X.x X.b (dk DX8_isWorthTrying_0 45 rfl) (by decide) ?_
          exact (lp_l hF hx) _ _ _ hH (lv_sub hl [0, 1, 2, 3, 4] rfl) K0 K1
        · replace hF := if_f hF c23
          have hr9 := lp_r hF hx
          subst hr9
          exact K0 rfl _ _ _ hH (lv_sub hl [] rfl)
set_option maxHeartbeats 4000000 in
set_option maxRecDepth 100000 in
theorem c_X8_isWorthTrying {l : Launch} {G : mG} {h : mM} {q : Nat → Nat} (hq : oinj LX8 q) {st : OS} {a0 : Int32} {a1 : Int32} {a2 : Int32} {a3 : Int64} {x : Int32} (hF : f_X8_isWorthTrying st a0 a1 a2 a3 = some x) : cQ l G yX8_isWorthTrying cX8_isWorthTrying 9 (some FieldType.boolean) rm_X8_isWorthTrying [.ref (q 15), .int a0, .int a1, .int a2, .long a3] (oset LX8 G q st h) (mQi G (fun r h1 => r = x ∧ h1 = oset LX8 G q st h)) := by
  refine mp_of (by decide +kernel) (Nat.le_of_ble_eq_true rfl) ?_
  intro p e s m below meth c X hr hlk hH hname ls hl
  dsimp only [f_X8_isWorthTrying] at hF
  replace hl : lv_has ls 9 [(0, .ref (q 15)), (1, .int a0), (2, .int a1), (3, .int a2), (4, .long a3)] := hl
  refine lv_lload X.x X.b (dk DX8_isWorthTrying_0 0 rfl) (lv_at hl 4 rfl) ?_
  refine lv_iload_n X.x X.b (dk DX8_isWorthTrying_0 1 rfl) rfl (lv_at hl 3 rfl) ?_
  refine lv_iconst (v := 1) X.x X.b (dk DX8_isWorthTrying_0 2 rfl) (by decide) ?_
  refine lv_iadd X.x X.b (dk DX8_isWorthTrying_0 3 rfl) ?_
  obtain ⟨x1, e2, hF⟩ := bd hF
  refine mr_cl0 hH ⟨rfl, rfl⟩ (mr_runS (As := [.int (a2 + 1)]) (rest := [.long a3]) X hH (c_X10_first e2) kM_X8_136 kT_X10_first kN_X10 kC_X10_first hd_X10_first ⟨Nat.le_of_ble_eq_true rfl, Nat.le_of_ble_eq_true rfl⟩ rfl hl.1 (Nat.le_of_ble_eq_true rfl) (dk DX8_isWorthTrying_0 4 rfl) ⟨Nat.zero_le _, Nat.zero_le _⟩) (fun r h1 H locs hp hH => ?_)
  obtain ⟨hr1, hr2⟩ := hp; rw [hr1]; rw [hr2] at hH; clear hr1 hr2
  refine lv_ldc2 (v := (-1)) X.x X.b X.ow (X.ts _ kK_X8_121) (dk DX8_isWorthTrying_0 5 rfl) ?_
  refine lv_lxor X.x X.b (dk DX8_isWorthTrying_0 6 rfl) ?_
  refine lv_land X.x X.b (dk DX8_isWorthTrying_0 7 rfl) ?_
  refine lv_topl (fun v4 e5 => ?_)
  replace hF := bnd_e hF e5
  refine lv_lstore (lv' := [(6, .long v4), (0, .ref (q 15)), (1, .int a0), (2, .int a1), (3, .int a2), (4, .long a3)]) X.x X.b (dk DX8_isWorthTrying_0 8 rfl) hl (by decide) rfl (fun ls hl => ?_)
  replace hl : lv_has ls 9 [(0, .ref (q 15)), (1, .int a0), (2, .int a1), (3, .int a2), (6, .long v4)] := lv_sub hl [1, 2, 3, 4, 0] rfl
  refine lv_lload X.x X.b (dk DX8_isWorthTrying_0 9 rfl) (lv_at hl 4 rfl) ?_
  obtain ⟨x6, e7, hF⟩ := bd hF
  refine mr_ci0 hH ⟨rfl, rfl⟩ (mr_runS (As := [.long v4]) (rest := []) X hH (c_J13_bitCount_95d88 e7) kM_X8_123 kT_J13_bitCount_95d88 kN_J13 kC_J13_bitCount_95d88 hd_J13_bitCount_95d88 ⟨Nat.le_of_ble_eq_true rfl, Nat.le_of_ble_eq_true rfl⟩ rfl hl.1 (Nat.le_of_ble_eq_true rfl) (dk DX8_isWorthTrying_0 10 rfl) ⟨Nat.zero_le _, Nat.zero_le _⟩) (fun r h1 H locs hp hH => ?_)
  obtain ⟨hr1, hr2⟩ := hp; rw [hr1]; rw [hr2] at hH; clear hr1 hr2
  refine lv_aload_n X.x X.b (dk DX8_isWorthTrying_0 11 rfl) rfl (lv_at hl 0 rfl) ?_
  refine og_getR (t := 1) OX8 X hq hH 13 (by decide) rfl kF_X8_48 (dk DX8_isWorthTrying_0 12 rfl) ?_
  refine lv_iload_n X.x X.b (dk DX8_isWorthTrying_0 13 rfl) rfl (lv_at hl 1 rfl) ?_
  obtain ⟨c9, hF⟩ := gd hF
  refine og_lald X hq hH 13 (by decide) rfl (inb_in c9) (dk DX8_isWorthTrying_0 14 rfl) ?_
  obtain ⟨x10, e11, hF⟩ := bd hF
  refine mr_ci0 hH ⟨rfl, rfl⟩ (mr_runS (As := [.long (st.2.2.2 13 (a0 : Int32).toNatClampNeg)]) (rest := [.int x6]) X hH (c_J13_bitCount_95d88 e11) kM_X8_123 kT_J13_bitCount_95d88 kN_J13 kC_J13_bitCount_95d88 hd_J13_bitCount_95d88 ⟨Nat.le_of_ble_eq_true rfl, Nat.le_of_ble_eq_true rfl⟩ rfl hl.1 (Nat.le_of_ble_eq_true rfl) (dk DX8_isWorthTrying_0 15 rfl) ⟨Nat.zero_le _, Nat.zero_le _⟩) (fun r h1 H locs hp hH => ?_)
  obtain ⟨hr1, hr2⟩ := hp; rw [hr1]; rw [hr2] at hH; clear hr1 hr2
  refine lv_iconst (v := 1) X.x X.b (dk DX8_isWorthTrying_0 16 rfl) (by decide) ?_
  refine lv_isub X.x X.b (dk DX8_isWorthTrying_0 17 rfl) ?_
  refine lv_icmp_ge (tgt := 36) X.x X.b (dk DX8_isWorthTrying_0 18 rfl) (by decide) (fun c13 => ?_) (fun c13 => ?_)
  · replace hF := if_t hF c13
    refine lv_iconst (v := 0) X.x X.b (dk DX8_isWorthTrying_0 21 rfl) (by decide) ?_
    refine lv_istore (lv' := [(8, .int 0), (0, .ref (q 15)), (1, .int a0), (2, .int a1), (3, .int a2), (6, .long v4)]) X.x X.b (dk DX8_isWorthTrying_0 22 rfl) hl (by decide) rfl (fun ls hl => ?_)
    replace hl : lv_has ls 9 [(0, .ref (q 15)), (1, .int a0), (2, .int a1), (3, .int a2), (8, .int 0)] := lv_sub hl [1, 2, 3, 4, 0] rfl
    obtain ⟨x26, e27, hF⟩ := bd hF
    replace hl : lv_has ls 9 [(0, .ref (q 15)), (1, .int a0), (2, .int a1), (3, .int a2), (8, .int 0)] := lv_sub hl [0, 1, 2, 3, 4] rfl
    refine w_X8_isWorthTrying_39 hq X st a0 a1 a2 _ _ e27 _ _ _ hH hl (fun hk H locs ls hH hl => ?_) (fun hk H locs ls hH hl => ?_)
    · subst hk
      replace hF := if_t hF rfl
      refine lv_iconst (v := 0) X.x X.b (dk DX8_isWorthTrying_0 42 rfl) (by decide) ?_
      cases sm hF
      exact mr_zret X hr hlk hH rfl ⟨rfl, rfl⟩ (dk DX8_isWorthTrying_0 43 rfl)
    · subst hk
      replace hF := if_f hF (by decide)
      refine lv_iconst (v := 1) X.x X.b (dk DX8_isWorthTrying_0 46 rfl) (by decide) ?_
      cases sm hF
      exact mr_zret X hr hlk hH rfl ⟨rfl, rfl⟩ (dk DX8_isWorthTrying_0 47 rfl)
  · replace hF := if_f hF c13
    refine lv_iconst (v := 0) X.x X.b (dk DX8_isWorthTrying_0 19 rfl) (by decide) ?_
    cases sm hF
    exact mr_zret X hr hlk hH rfl ⟨rfl, rfl⟩ (dk DX8_isWorthTrying_0 20 rfl)
-- X8_carryOn
abbrev rm_X8_carryOn (d : Nat) : Room := { frames := 5 + d, cells := 0, slots := 0, locals := 124 + d * 26 }
theorem hd_X8_carryOn : mHd yX8_carryOn 2 := ⟨by decide +kernel, by decide +kernel, by decide +kernel⟩
theorem DX8_carryOn_0 : ∀ t ∈ ([(0, .iload_n 1, 1), (1, .ifCond .lt 17, 3), (4, .iload_n 1, 1), (5, .bipush 16, 2), (7, .if_icmp .ge 11, 3), (10, .aload_n 0, 1), (11, .iload_n 1, 1), (12, .invokevirtual 96, 3), (15, .ifCond .ne 5, 3), (18, .iconst 0, 1), (19, .ireturn, 1), (20, .aload_n 0, 1), (21, .iload_n 1, 1), (22, .invokevirtual 100, 3), (25, .istore_n 2, 1), (26, .iload_n 2, 1), (27, .iconst (-1), 1), (28, .if_icmp .ne 10, 3), (31, .aload_n 0, 1), (32, .iload_n 1, 1), (33, .invokevirtual 128, 3), (36, .iconst 1, 1), (37, .ireturn, 1), (38, .aload_n 0, 1), (39, .getfield 30, 3), (42, .iload_n 1, 1), (43, .bipush 64, 2), (45, .imul, 1), (46, .iload_n 2, 1), (47, .iadd, 1), (48, .laload, 1), (49, .invokestatic 103, 3), (52, .istore_n 3, 1), (53, .aload_n 0, 1), (54, .getfield 33, 3), (57, .iload_n 1, 1), (58, .bipush 64, 2), (60, .imul, 1), (61, .iload_n 2, 1), (62, .iadd, 1), (63, .laload, 1), (64, .lstore 4, 2), (66, .iconst 0, 1), (67, .istore 6, 2), (69, .iload 6, 2), (71, .aload_n 0, 1), (72, .getfield 83, 3), (75, .if_icmp .ge 60, 3), (78, .iload 6, 2), (80, .bipush 16, 2), (82, .if_icmp .ge 53, 3), (85, .lload 4, 2), (87, .iload 6, 2), (89, .invokestatic 111, 3), (92, .ifCond .eq 37, 3), (95, .aload_n 0, 1), (96, .iload_n 1, 1), (97, .iload_n 3, 1), (98, .iload 6, 2), (100, .lload 4, 2)] : List (Nat × Instr × Nat)), decode cX8_carryOn t.1 = .ok (t.2.1, t.2.2) := by decide +kernel
theorem DX8_carryOn_1 : ∀ t ∈ ([(102, .invokevirtual 132, 3), (105, .ifCond .eq 24, 3), (108, .aload_n 0, 1), (109, .iload_n 1, 1), (110, .iload_n 2, 1), (111, .iload_n 3, 1), (112, .iload 6, 2), (114, .invokevirtual 107, 3), (117, .aload_n 0, 1), (118, .iload_n 1, 1), (119, .iconst 1, 1), (120, .iadd, 1), (121, .invokestatic 73, 3), (124, .ifCond .eq 5, 3), (127, .iconst 1, 1), (128, .ireturn, 1), (129, .iinc 6 1, 3), (132, .goto (-63), 3), (135, .iconst 0, 1), (136, .ireturn, 1)] : List (Nat × Instr × Nat)), decode cX8_carryOn t.1 = .ok (t.2.1, t.2.2) := by decide +kernel
noncomputable def f_X8_carryOn_69 (rec : OS → Int32 → Option (Int32 × OS)) (b1 : Int32) (b2 : Int32) (b3 : Int32) (b4 : Int64) : (OS × Int32) → Option ((OS × Int32) ⊕ (Nat × OS)) := fun z => match z with | (s_o1, b6) => (if (s_o1.1 0) ≤ b6 then some (.inr ((1, s_o1))) else (if 16 ≤ b6 then some (.inr ((1, s_o1))) else (f_X10_has b4 b6).bind (fun x20 => (if x20 = 0 then bnd (b6 + 1 : Int32) (fun v24 => some (.inl ((s_o1, v24)))) else (f_X8_isWorthTrying s_o1 b1 b3 b6 b4).bind (fun x26 => (if x26 = 0 then bnd (b6 + 1 : Int32) (fun v30 => some (.inl ((s_o1, v30)))) else (f_X8_tellApart s_o1 b1 b2 b3 b6).bind (fun x32 => (rec x32 (b1 + 1)).bind (fun x35 => match x35 with | (v37, t38) => (if v37 = 0 then bnd (b6 + 1 : Int32) (fun v40 => some (.inl ((t38, v40)))) else some (.inr ((0, t38))))))))))))
noncomputable def f_X8_carryOn_T (rec : OS → Int32 → Option (Int32 × OS)) (st1 : OS) (a1 : Int32) : Option (Int32 × OS) := (if a1 < 0 then some ((0, st1)) else (if 16 ≤ a1 then some ((0, st1)) else (f_X8_settleKinds st1 a1).bind (fun x3 => match x3 with | (v5, t6) => (if v5 = 0 then some ((0, t6)) else (f_X8_undecided t6 a1).bind (fun x8 => (if x8 = ((-1)) then (f_X8_carryKinds t6 a1).bind (fun x46 => some ((1, x46))) else if inb ((a1 * 64) + x8) 1088 = true then (f_X10_lowest (t6.2.2.2 7 ((a1 * 64) + x8 : Int32).toNatClampNeg)).bind (fun x13 => bnd (t6.2.2.2 8 ((a1 * 64) + x8 : Int32).toNatClampNeg : Int64) (fun v16 => (lpv (f_X8_carryOn_69 rec a1 x8 x13 v16) ((t6, 0))).bind (fun x42 => match x42 with | (k45, t44) => (if k45 = 0 then some ((1, t44)) else some ((0, t44)))))) else none))))))
noncomputable def f_X8_carryOn : Nat → OS → Int32 → Option (Int32 × OS)
  | 0 => fun _ _ => none
  | d + 1 => f_X8_carryOn_T (f_X8_carryOn d)
set_option maxHeartbeats 4000000 in
set_option maxRecDepth 100000 in
theorem w_X8_carryOn_69 {p : Program} {l : Launch} {e : Env} {s : State} {m : MethodId} {args : Array Value} {below : List Frame} {meth : Method} {c : Code} {Q : State → Prop} {G : mG} {h : mM} {q1 : Nat → Nat} (hq1 : oinj LX8 q1) {d : Nat} {rec : OS → Int32 → Option (Int32 × OS)} (ih : ∀ (st1 : OS) (a1 : Int32) (x : Int32 × OS), rec st1 a1 = some x → cQ l G yX8_carryOn cX8_carryOn 7 (some FieldType.boolean) (rm_X8_carryOn d) [.ref (q1 15), .int a1] (oset LX8 G q1 st1 h) (mQi G (fun r h1 => r = x.1 ∧ h1 = oset LX8 G q1 x.2 h))) (X : mX G p m c cX8_carryOn 7 s args RX8) (b1 : Int32) (b2 : Int32) (b3 : Int32) (b4 : Int64) : ∀ (z : OS × Int32) (r : Nat × OS), lpv (f_X8_carryOn_69 rec b1 b2 b3 b4) z = some r → ∀ (H : Heap) (locs : List Loc) (ls : Array Slot), mH G (oset LX8 G q1 z.1 h) s.heap H locs → lv_has ls 7 [(0, .ref (q1 15)), (1, .int b1), (2, .int b2), (3, .int b3), (4, .long b4), (6, .int z.2)] → (r.1 = 0 → ∀ (H : Heap) (locs : List Loc) (ls : Array Slot), mH G (oset LX8 G q1 r.2 h) s.heap H locs → lv_has ls 7 [] → W p l e (rm_X8_carryOn (d + 1)) s m args below meth c H locs 0 0 Q (F0 m 127 ls [])) → (r.1 = 1 → ∀ (H : Heap) (locs : List Loc) (ls : Array Slot), mH G (oset LX8 G q1 r.2 h) s.heap H locs → lv_has ls 7 [] → W p l e (rm_X8_carryOn (d + 1)) s m args below meth c H locs 0 0 Q (F0 m 135 ls [])) → W p l e (rm_X8_carryOn (d + 1)) s m args below meth c H locs 0 0 Q (F0 m 69 ls []) := by
  refine lpv_rec ?_
  intro z r x hF hx H locs ls hH hl K0 K1
  obtain ⟨s_o1, b6⟩ := z
  dsimp only [f_X8_carryOn_69] at hF
  try dsimp only at hH hl
  refine lv_iload X.x X.b (dk DX8_carryOn_0 44 rfl) (lv_at hl 5 rfl) ?_
  refine lv_aload_n X.x X.b (dk DX8_carryOn_0 45 rfl) rfl (lv_at hl 0 rfl) ?_
  refine og_getI OX8 X hq1 hH 0 (by decide) rfl kF_X8_83 (dk DX8_carryOn_0 46 rfl) ?_
  refine lv_icmp_ge (tgt := 135) X.x X.b (dk DX8_carryOn_0 47 rfl) (by decide) (fun c18 => ?_) (fun c18 => ?_)
  · replace hF := if_t hF c18
    have hr9 := lp_r hF hx
    subst hr9
    exact K1 rfl _ _ _ hH (lv_sub hl [] rfl)
  · replace hF := if_f hF c18
    refine lv_iload X.x X.b (dk DX8_carryOn_0 48 rfl) (lv_at hl 5 rfl) ?_
    refine lv_bipush (v := 16) X.x X.b (dk DX8_carryOn_0 49 rfl) (by decide) ?_
    refine lv_icmp_ge (tgt := 135) X.x X.b (dk DX8_carryOn_0 50 rfl) (by decide) (fun c19 => ?_) (fun c19 => ?_)
    · replace hF := if_t hF c19
      have hr9 := lp_r hF hx
      subst hr9
      exact K1 rfl _ _ _ hH (lv_sub hl [] rfl)
    · replace hF := if_f hF c19
      refine lv_lload X.x X.b (dk DX8_carryOn_0 51 rfl) (lv_at hl 4 rfl) ?_
      refine lv_iload X.x X.b (dk DX8_carryOn_0 52 rfl) (lv_at hl 5 rfl) ?_
      obtain ⟨x20, e21, hF⟩ := bd hF
      refine mr_ci0 hH ⟨rfl, rfl⟩ (mr_runS (As := [.long b4, .int b6]) (rest := []) X hH (c_X10_has e21) kM_X8_111 kT_X10_has kN_X10 kC_X10_has hd_X10_has ⟨by dsimp only [rm_X8_carryOn, rm_X10_has]; omega, by dsimp only [rm_X8_carryOn, rm_X10_has]; omega⟩ rfl hl.1 (Nat.le_of_ble_eq_true rfl) (dk DX8_carryOn_0 53 rfl) ⟨Nat.zero_le _, Nat.zero_le _⟩) (fun r h1 H locs hp hH => ?_)
      obtain ⟨hr1, hr2⟩ := hp; rw [hr1]; rw [hr2] at hH; clear hr1 hr2
      refine lv_if_eq (tgt := 129) X.x X.b (dk DX8_carryOn_0 54 rfl) (by decide) (fun c23 => ?_) (fun c23 => ?_)
      · replace hF := if_t hF c23
        obtain ⟨v24, e25⟩ : ∃ y : Int32, y = b6 + 1 := ⟨_, rfl⟩
        replace hF := bnd_e hF e25
        refine lv_iinc (v := v24) (lv' := [(6, .int v24), (0, .ref (q1 15)), (1, .int b1), (2, .int b2), (3, .int b3), (4, .long b4)]) X.x X.b (dk DX8_carryOn_1 16 rfl) hl (k := 5) rfl (by rw [e25]; rfl) (by decide) rfl (fun ls hl => ?_)
        replace hl : lv_has ls 7 [(0, .ref (q1 15)), (1, .int b1), (2, .int b2), (3, .int b3), (4, .long b4), (6, .int v24)] := lv_sub hl [1, 2, 3, 4, 5, 0] rfl
        refine lv_goto (tgt := 69) X.x X.b (dk DX8_carryOn_1 17 rfl) (by decide) ?_
        exact (lp_l hF hx) _ _ _ hH (lv_sub hl [0, 1, 2, 3, 4, 5] rfl) K0 K1
      · replace hF := if_f hF c23
        refine lv_aload_n X.x X.b (dk DX8_carryOn_0 55 rfl) rfl (lv_at hl 0 rfl) ?_
        refine lv_iload_n X.x X.b (dk DX8_carryOn_0 56 rfl) rfl (lv_at hl 1 rfl) ?_
        refine lv_iload_n X.x X.b (dk DX8_carryOn_0 57 rfl) rfl (lv_at hl 3 rfl) ?_
        refine lv_iload X.x X.b (dk DX8_carryOn_0 58 rfl) (lv_at hl 5 rfl) ?_
        refine lv_lload X.x X.b (dk DX8_carryOn_0 59 rfl) (lv_at hl 4 rfl) ?_
        obtain ⟨x26, e27, hF⟩ := bd hF
        refine mr_ci0 hH ⟨rfl, rfl⟩ (mr_runV (As := [.int b1, .int b3, .int b6, .long b4]) (rest := []) X hH (c_X8_isWorthTrying hq1 e27) ((oset_at hq1 (Nat.le_refl _) ohas_N).trans (congrArg some ocell_N)) OX8.1 kM_X8_132 kI_X8_isWorthTrying kS_X8_isWorthTrying kN_X8 kC_X8_isWorthTrying hd_X8_isWorthTrying ⟨by dsimp only [rm_X8_carryOn, rm_X8_isWorthTrying]; omega, by dsimp only [rm_X8_carryOn, rm_X8_isWorthTrying]; omega⟩ rfl hl.1 (Nat.le_of_ble_eq_true rfl) (dk DX8_carryOn_1 0 rfl) ⟨Nat.zero_le _, Nat.zero_le _⟩) (fun r h1 H locs hp hH => ?_)
        obtain ⟨hr1, hr2⟩ := hp; rw [hr1]; rw [hr2] at hH; clear hr1 hr2
        refine lv_if_eq (tgt := 129) X.x X.b (dk DX8_carryOn_1 1 rfl) (by decide) (fun c29 => ?_) (fun c29 => ?_)
        · replace hF := if_t hF c29
          obtain ⟨v30, e31⟩ : ∃ y : Int32, y = b6 + 1 := ⟨_, rfl⟩
          replace hF := bnd_e hF e31
          refine lv_iinc (v := v30) (lv' := [(6, .int v30), (0, .ref (q1 15)), (1, .int b1), (2, .int b2), (3, .int b3), (4, .long b4)]) X.x X.b (dk DX8_carryOn_1 16 rfl) hl (k := 5) rfl (by rw [e31]; rfl) (by decide) rfl (fun ls hl => ?_)
          replace hl : lv_has ls 7 [(0, .ref (q1 15)), (1, .int b1), (2, .int b2), (3, .int b3), (4, .long b4), (6, .int v30)] := lv_sub hl [1, 2, 3, 4, 5, 0] rfl
          refine lv_goto (tgt := 69) X.x X.b (dk DX8_carryOn_1 17 rfl) (by decide) ?_
          exact (lp_l hF hx) _ _ _ hH (lv_sub hl [0, 1, 2, 3, 4, 5] rfl) K0 K1
        · replace hF := if_f hF c29
          refine lv_aload_n X.x X.b (dk DX8_carryOn_1 2 rfl) rfl (lv_at hl 0 rfl) ?_
          refine lv_iload_n X.x X.b (dk DX8_carryOn_1 3 rfl) rfl (lv_at hl 1 rfl) ?_
          refine lv_iload_n X.x X.b (dk DX8_carryOn_1 4 rfl) rfl (lv_at hl 2 rfl) ?_
          refine lv_iload_n X.x X.b (dk DX8_carryOn_1 5 rfl) rfl (lv_at hl 3 rfl) ?_
          refine lv_iload X.x X.b (dk DX8_carryOn_1 6 rfl) (lv_at hl 5 rfl) ?_
          obtain ⟨x32, e33, hF⟩ := bd hF
          refine mr_cv0 hH ⟨rfl, rfl⟩ (mr_runV (As := [.int b1, .int b2, .int b3, .int b6]) (rest := []) X hH (c_X8_tellApart hq1 e33) ((oset_at hq1 (Nat.le_refl _) ohas_N).trans (congrArg some ocell_N)) OX8.1 kM_X8_107 kI_X8_tellApart kS_X8_tellApart kN_X8 kC_X8_tellApart hd_X8_tellApart ⟨by dsimp only [rm_X8_carryOn, rm_X8_tellApart]; omega, by dsimp only [rm_X8_carryOn, rm_X8_tellApart]; omega⟩ rfl hl.1 (Nat.le_of_ble_eq_true rfl) (dk DX8_carryOn_1 7 rfl) ⟨Nat.zero_le _, Nat.zero_le _⟩) (fun h1 H locs hp hH => ?_)
          rw [hp] at hH; clear hp
          refine lv_aload_n X.x X.b (dk DX8_carryOn_1 8 rfl) rfl (lv_at hl 0 rfl) ?_
          refine lv_iload_n X.x X.b (dk DX8_carryOn_1 9 rfl) rfl (lv_at hl 1 rfl) ?_
          refine lv_iconst (v := 1) X.x X.b (dk DX8_carryOn_1 10 rfl) (by decide) ?_
          refine lv_iadd X.x X.b (dk DX8_carryOn_1 11 rfl) ?_
          obtain ⟨x35, e36, hF⟩ := bd hF
          refine mr_ci0 hH ⟨rfl, rfl⟩ (mr_runS (As := [.ref (q1 15), .int (b1 + 1)]) (rest := []) X hH (ih x32 (b1 + 1) _ e36) kM_X8_73 kT_X8_carryOn kN_X8 kC_X8_carryOn hd_X8_carryOn ⟨by dsimp only [rm_X8_carryOn, rm_X8_carryOn]; omega, by dsimp only [rm_X8_carryOn, rm_X8_carryOn]; omega⟩ rfl hl.1 (Nat.le_of_ble_eq_true rfl) (dk DX8_carryOn_1 12 rfl) ⟨Nat.zero_le _, Nat.zero_le _⟩) (fun r h1 H locs hp hH => ?_)
          obtain ⟨hr1, hr2⟩ := hp; rw [hr1]; rw [hr2] at hH; clear hr1 hr2
          obtain ⟨v37, t38⟩ := x35
          try dsimp only at hF hH ⊢
          refine lv_if_eq (tgt := 129) X.x X.b (dk DX8_carryOn_1 13 rfl) (by decide) (fun c39 => ?_) (fun c39 => ?_)
          · replace hF := if_t hF c39
            obtain ⟨v40, e41⟩ : ∃ y : Int32, y = b6 + 1 := ⟨_, rfl⟩
            replace hF := bnd_e hF e41
            refine lv_iinc (v := v40) (lv' := [(6, .int v40), (0, .ref (q1 15)), (1, .int b1), (2, .int b2), (3, .int b3), (4, .long b4)]) X.x X.b (dk DX8_carryOn_1 16 rfl) hl (k := 5) rfl (by rw [e41]; rfl) (by decide) rfl (fun ls hl => ?_)
            replace hl : lv_has ls 7 [(0, .ref (q1 15)), (1, .int b1), (2, .int b2), (3, .int b3), (4, .long b4), (6, .int v40)] := lv_sub hl [1, 2, 3, 4, 5, 0] rfl
            refine lv_goto (tgt := 69) X.x X.b (dk DX8_carryOn_1 17 rfl) (by decide) ?_
            exact (lp_l hF hx) _ _ _ hH (lv_sub hl [0, 1, 2, 3, 4, 5] rfl) K0 K1
          · replace hF := if_f hF c39
            have hr9 := lp_r hF hx
            subst hr9
            exact K0 rfl _ _ _ hH (lv_sub hl [] rfl)
set_option maxHeartbeats 4000000 in
set_option maxRecDepth 100000 in
theorem c_X8_carryOn {l : Launch} {G : mG} {h : mM} {q1 : Nat → Nat} (hq1 : oinj LX8 q1) (d : Nat) : ∀ (st1 : OS) (a1 : Int32) (x : Int32 × OS), f_X8_carryOn d st1 a1 = some x → cQ l G yX8_carryOn cX8_carryOn 7 (some FieldType.boolean) (rm_X8_carryOn d) [.ref (q1 15), .int a1] (oset LX8 G q1 st1 h) (mQi G (fun r h1 => r = x.1 ∧ h1 = oset LX8 G q1 x.2 h)) := by
  induction d with
  | zero => intro st1 a1 x hF; cases hF
  | succ d ih =>
    intro st1 a1 x hF
    have hF : f_X8_carryOn_T (f_X8_carryOn d) st1 a1 = some x := hF
    generalize f_X8_carryOn d = rec at hF ih
    refine mp_of (by decide +kernel) (Nat.le_of_ble_eq_true rfl) ?_
    intro p e s m below meth c X hr hlk hH hname ls hl
    dsimp only [f_X8_carryOn_T] at hF
    replace hl : lv_has ls 7 [(0, .ref (q1 15)), (1, .int a1)] := hl
    refine lv_iload_n X.x X.b (dk DX8_carryOn_0 0 rfl) rfl (lv_at hl 1 rfl) ?_
    refine lv_if_lt (tgt := 18) X.x X.b (dk DX8_carryOn_0 1 rfl) (by decide) (fun c1 => ?_) (fun c1 => ?_)
    · replace hF := if_t hF c1
      refine lv_iconst (v := 0) X.x X.b (dk DX8_carryOn_0 9 rfl) (by decide) ?_
      cases sm hF
      exact mr_zret X hr hlk hH rfl ⟨rfl, rfl⟩ (dk DX8_carryOn_0 10 rfl)
    · replace hF := if_f hF c1
      refine lv_iload_n X.x X.b (dk DX8_carryOn_0 2 rfl) rfl (lv_at hl 1 rfl) ?_
      refine lv_bipush (v := 16) X.x X.b (dk DX8_carryOn_0 3 rfl) (by decide) ?_
      refine lv_icmp_ge (tgt := 18) X.x X.b (dk DX8_carryOn_0 4 rfl) (by decide) (fun c2 => ?_) (fun c2 => ?_)
      · replace hF := if_t hF c2
        refine lv_iconst (v := 0) X.x X.b (dk DX8_carryOn_0 9 rfl) (by decide) ?_
        cases sm hF
        exact mr_zret X hr hlk hH rfl ⟨rfl, rfl⟩ (dk DX8_carryOn_0 10 rfl)
      · replace hF := if_f hF c2
        refine lv_aload_n X.x X.b (dk DX8_carryOn_0 5 rfl) rfl (lv_at hl 0 rfl) ?_
        refine lv_iload_n X.x X.b (dk DX8_carryOn_0 6 rfl) rfl (lv_at hl 1 rfl) ?_
        obtain ⟨x3, e4, hF⟩ := bd hF
        refine mr_ci0 hH ⟨rfl, rfl⟩ (mr_runV (As := [.int a1]) (rest := []) X hH (c_X8_settleKinds hq1 e4) ((oset_at hq1 (Nat.le_refl _) ohas_N).trans (congrArg some ocell_N)) OX8.1 kM_X8_96 kI_X8_settleKinds kS_X8_settleKinds kN_X8 kC_X8_settleKinds hd_X8_settleKinds ⟨by dsimp only [rm_X8_carryOn, rm_X8_settleKinds]; omega, by dsimp only [rm_X8_carryOn, rm_X8_settleKinds]; omega⟩ rfl hl.1 (Nat.le_of_ble_eq_true rfl) (dk DX8_carryOn_0 7 rfl) ⟨Nat.zero_le _, Nat.zero_le _⟩) (fun r h1 H locs hp hH => ?_)
        obtain ⟨hr1, hr2⟩ := hp; rw [hr1]; rw [hr2] at hH; clear hr1 hr2
        obtain ⟨v5, t6⟩ := x3
        try dsimp only at hF hH ⊢
        refine lv_if_ne (tgt := 20) X.x X.b (dk DX8_carryOn_0 8 rfl) (by decide) (fun c7 => ?_) (fun c7 => ?_)
        · replace hF := if_f hF c7
          refine lv_aload_n X.x X.b (dk DX8_carryOn_0 11 rfl) rfl (lv_at hl 0 rfl) ?_
          refine lv_iload_n X.x X.b (dk DX8_carryOn_0 12 rfl) rfl (lv_at hl 1 rfl) ?_
          obtain ⟨x8, e9, hF⟩ := bd hF
          refine mr_ci0 hH ⟨rfl, rfl⟩ (mr_runV (As := [.int a1]) (rest := []) X hH (c_X8_undecided hq1 e9) ((oset_at hq1 (Nat.le_refl _) ohas_N).trans (congrArg some ocell_N)) OX8.1 kM_X8_100 kI_X8_undecided kS_X8_undecided kN_X8 kC_X8_undecided hd_X8_undecided ⟨by dsimp only [rm_X8_carryOn, rm_X8_undecided]; omega, by dsimp only [rm_X8_carryOn, rm_X8_undecided]; omega⟩ rfl hl.1 (Nat.le_of_ble_eq_true rfl) (dk DX8_carryOn_0 13 rfl) ⟨Nat.zero_le _, Nat.zero_le _⟩) (fun r h1 H locs hp hH => ?_)
          obtain ⟨hr1, hr2⟩ := hp; rw [hr1]; rw [hr2] at hH; clear hr1 hr2
          refine lv_istore_n (lv' := [(2, .int x8), (0, .ref (q1 15)), (1, .int a1)]) X.x X.b (dk DX8_carryOn_0 14 rfl) rfl hl (by decide) rfl (fun ls hl => ?_)
          replace hl : lv_has ls 7 [(0, .ref (q1 15)), (1, .int a1), (2, .int x8)] := lv_sub hl [1, 2, 0] rfl
          refine lv_iload_n X.x X.b (dk DX8_carryOn_0 15 rfl) rfl (lv_at hl 2 rfl) ?_
          refine lv_iconst (v := (-1)) X.x X.b (dk DX8_carryOn_0 16 rfl) (by decide) ?_
          refine lv_icmp_ne (tgt := 38) X.x X.b (dk DX8_carryOn_0 17 rfl) (by decide) (fun c11 => ?_) (fun c11 => ?_)
          · replace hF := if_f hF c11
            refine lv_aload_n X.x X.b (dk DX8_carryOn_0 23 rfl) rfl (lv_at hl 0 rfl) ?_
            refine og_getR (t := 1) OX8 X hq1 hH 7 (by decide) rfl kF_X8_30 (dk DX8_carryOn_0 24 rfl) ?_
            refine lv_iload_n X.x X.b (dk DX8_carryOn_0 25 rfl) rfl (lv_at hl 1 rfl) ?_
            refine lv_bipush (v := 64) X.x X.b (dk DX8_carryOn_0 26 rfl) (by decide) ?_
            refine lv_imul X.x X.b (dk DX8_carryOn_0 27 rfl) ?_
            refine lv_iload_n X.x X.b (dk DX8_carryOn_0 28 rfl) rfl (lv_at hl 2 rfl) ?_
            refine lv_iadd X.x X.b (dk DX8_carryOn_0 29 rfl) ?_
            obtain ⟨c12, hF⟩ := gd hF
            refine og_lald X hq1 hH 7 (by decide) rfl (inb_in c12) (dk DX8_carryOn_0 30 rfl) ?_
            obtain ⟨x13, e14, hF⟩ := bd hF
            refine mr_ci0 hH ⟨rfl, rfl⟩ (mr_runS (As := [.long (t6.2.2.2 7 ((a1 * 64) + x8 : Int32).toNatClampNeg)]) (rest := []) X hH (c_X10_lowest e14) kM_X8_103 kT_X10_lowest kN_X10 kC_X10_lowest hd_X10_lowest ⟨by dsimp only [rm_X8_carryOn, rm_X10_lowest]; omega, by dsimp only [rm_X8_carryOn, rm_X10_lowest]; omega⟩ rfl hl.1 (Nat.le_of_ble_eq_true rfl) (dk DX8_carryOn_0 31 rfl) ⟨Nat.zero_le _, Nat.zero_le _⟩) (fun r h1 H locs hp hH => ?_)
            obtain ⟨hr1, hr2⟩ := hp; rw [hr1]; rw [hr2] at hH; clear hr1 hr2
            refine lv_istore_n (lv' := [(3, .int x13), (0, .ref (q1 15)), (1, .int a1), (2, .int x8)]) X.x X.b (dk DX8_carryOn_0 32 rfl) rfl hl (by decide) rfl (fun ls hl => ?_)
            replace hl : lv_has ls 7 [(0, .ref (q1 15)), (1, .int a1), (2, .int x8), (3, .int x13)] := lv_sub hl [1, 2, 3, 0] rfl
            refine lv_aload_n X.x X.b (dk DX8_carryOn_0 33 rfl) rfl (lv_at hl 0 rfl) ?_
            refine og_getR (t := 1) OX8 X hq1 hH 8 (by decide) rfl kF_X8_33 (dk DX8_carryOn_0 34 rfl) ?_
            refine lv_iload_n X.x X.b (dk DX8_carryOn_0 35 rfl) rfl (lv_at hl 1 rfl) ?_
            refine lv_bipush (v := 64) X.x X.b (dk DX8_carryOn_0 36 rfl) (by decide) ?_
            refine lv_imul X.x X.b (dk DX8_carryOn_0 37 rfl) ?_
            refine lv_iload_n X.x X.b (dk DX8_carryOn_0 38 rfl) rfl (lv_at hl 2 rfl) ?_
            refine lv_iadd X.x X.b (dk DX8_carryOn_0 39 rfl) ?_
            refine og_lald X hq1 hH 8 (by decide) rfl (inb_in c12) (dk DX8_carryOn_0 40 rfl) ?_
            refine lv_topl (fun v16 e17 => ?_)
            replace hF := bnd_e hF e17
            refine lv_lstore (lv' := [(4, .long v16), (0, .ref (q1 15)), (1, .int a1), (2, .int x8), (3, .int x13)]) X.x X.b (dk DX8_carryOn_0 41 rfl) hl (by decide) rfl (fun ls hl => ?_)
            replace hl : lv_has ls 7 [(0, .ref (q1 15)), (1, .int a1), (2, .int x8), (3, .int x13), (4, .long v16)] := lv_sub hl [1, 2, 3, 4, 0] rfl
            refine lv_iconst (v := 0) X.x X.b (dk DX8_carryOn_0 42 rfl) (by decide) ?_
            refine lv_istore (lv' := [(6, .int 0), (0, .ref (q1 15)), (1, .int a1), (2, .int x8), (3, .int x13), (4, .long v16)]) X.x X.b (dk DX8_carryOn_0 43 rfl) hl (by decide) rfl (fun ls hl => ?_)
            replace hl : lv_has ls 7 [(0, .ref (q1 15)), (1, .int a1), (2, .int x8), (3, .int x13), (4, .long v16), (6, .int 0)] := lv_sub hl [1, 2, 3, 4, 5, 0] rfl
            obtain ⟨x42, e43, hF⟩ := bd hF
            replace hl : lv_has ls 7 [(0, .ref (q1 15)), (1, .int a1), (2, .int x8), (3, .int x13), (4, .long v16), (6, .int 0)] := lv_sub hl [0, 1, 2, 3, 4, 5] rfl
            obtain ⟨k45, t44⟩ := x42
            try dsimp only at hF
            refine w_X8_carryOn_69 hq1 ih X a1 x8 x13 v16 _ _ e43 _ _ _ hH hl (fun hk H locs ls hH hl => ?_) (fun hk H locs ls hH hl => ?_)
            · try dsimp only at hH hl
              try dsimp only at hk
              subst hk
              replace hF := if_t hF rfl
              refine lv_iconst (v := 1) X.x X.b (dk DX8_carryOn_1 14 rfl) (by decide) ?_
              cases sm hF
              exact mr_zret X hr hlk hH rfl ⟨rfl, rfl⟩ (dk DX8_carryOn_1 15 rfl)
            · try dsimp only at hH hl
              try dsimp only at hk
              subst hk
              replace hF := if_f hF (by decide)
              refine lv_iconst (v := 0) X.x X.b (dk DX8_carryOn_1 18 rfl) (by decide) ?_
              cases sm hF
              exact mr_zret X hr hlk hH rfl ⟨rfl, rfl⟩ (dk DX8_carryOn_1 19 rfl)
          · replace hF := if_t hF c11
            refine lv_aload_n X.x X.b (dk DX8_carryOn_0 18 rfl) rfl (lv_at hl 0 rfl) ?_
            refine lv_iload_n X.x X.b (dk DX8_carryOn_0 19 rfl) rfl (lv_at hl 1 rfl) ?_
            obtain ⟨x46, e47, hF⟩ := bd hF
            refine mr_cv0 hH ⟨rfl, rfl⟩ (mr_runV (As := [.int a1]) (rest := []) X hH (c_X8_carryKinds hq1 e47) ((oset_at hq1 (Nat.le_refl _) ohas_N).trans (congrArg some ocell_N)) OX8.1 kM_X8_128 kI_X8_carryKinds kS_X8_carryKinds kN_X8 kC_X8_carryKinds hd_X8_carryKinds ⟨by dsimp only [rm_X8_carryOn, rm_X8_carryKinds]; omega, by dsimp only [rm_X8_carryOn, rm_X8_carryKinds]; omega⟩ rfl hl.1 (Nat.le_of_ble_eq_true rfl) (dk DX8_carryOn_0 20 rfl) ⟨Nat.zero_le _, Nat.zero_le _⟩) (fun h1 H locs hp hH => ?_)
            rw [hp] at hH; clear hp
            refine lv_iconst (v := 1) X.x X.b (dk DX8_carryOn_0 21 rfl) (by decide) ?_
            cases sm hF
            exact mr_zret X hr hlk hH rfl ⟨rfl, rfl⟩ (dk DX8_carryOn_0 22 rfl)
        · replace hF := if_t hF c7
          refine lv_iconst (v := 0) X.x X.b (dk DX8_carryOn_0 9 rfl) (by decide) ?_
          cases sm hF
          exact mr_zret X hr hlk hH rfl ⟨rfl, rfl⟩ (dk DX8_carryOn_0 10 rfl)
-- X8_mergeClasses
abbrev rm_X8_mergeClasses : Room := { frames := 0, cells := 0, slots := 0, locals := 0 }
theorem hd_X8_mergeClasses : mHd yX8_mergeClasses 0 := ⟨by decide +kernel, by decide +kernel, by decide +kernel⟩
theorem DX8_mergeClasses_0 : ∀ t ∈ ([(0, .iconst 0, 1), (1, .istore_n 1, 1), (2, .iload_n 1, 1), (3, .aload_n 0, 1), (4, .getfield 83, 3), (7, .if_icmp .ge 104, 3), (10, .iload_n 1, 1), (11, .bipush 16, 2), (13, .if_icmp .ge 98, 3), (16, .aload_n 0, 1), (17, .getfield 42, 3), (20, .iload_n 1, 1), (21, .iaload, 1), (22, .istore_n 2, 1), (23, .iload_n 2, 1), (24, .ifCond .lt 81, 3), (27, .iload_n 2, 1), (28, .bipush 16, 2), (30, .if_icmp .ge 75, 3), (33, .aload_n 0, 1), (34, .getfield 45, 3), (37, .iload_n 2, 1), (38, .iaload, 1), (39, .aload_n 0, 1), (40, .getfield 45, 3), (43, .iload_n 1, 1), (44, .iaload, 1), (45, .if_icmp .eq 60, 3), (48, .aload_n 0, 1), (49, .getfield 45, 3), (52, .iload_n 2, 1), (53, .iaload, 1), (54, .istore_n 3, 1), (55, .iconst 0, 1), (56, .istore 4, 2), (58, .iload 4, 2), (60, .bipush 16, 2), (62, .if_icmp .ge 43, 3), (65, .aload_n 0, 1), (66, .getfield 45, 3), (69, .iload 4, 2), (71, .aload_n 0, 1), (72, .getfield 45, 3), (75, .iload 4, 2), (77, .iaload, 1), (78, .iload_n 3, 1), (79, .if_icmp .ne 12, 3), (82, .aload_n 0, 1), (83, .getfield 45, 3), (86, .iload_n 1, 1), (87, .iaload, 1), (88, .goto 10, 3), (91, .aload_n 0, 1), (92, .getfield 45, 3), (95, .iload 4, 2), (97, .iaload, 1), (98, .iastore, 1), (99, .iinc 4 1, 3), (102, .goto (-44), 3), (105, .iinc 1 1, 3)] : List (Nat × Instr × Nat)), decode cX8_mergeClasses t.1 = .ok (t.2.1, t.2.2) := by decide +kernel
theorem DX8_mergeClasses_1 : ∀ t ∈ ([(108, .goto (-106), 3), (111, .return_, 1)] : List (Nat × Instr × Nat)), decode cX8_mergeClasses t.1 = .ok (t.2.1, t.2.2) := by decide +kernel
noncomputable def f_X8_mergeClasses_58 (b1 : Int32) (b3 : Int32) : (OS × Int32) → Option ((OS × Int32) ⊕ (OS)) := fun z => match z with | (s_t, b4) => (if 16 ≤ b4 then some (.inr s_t) else if inb b4 16 = true then (if (s_t.2.2.1 12 (b4 : Int32).toNatClampNeg) = b3 then if inb b1 16 = true then bnd (oA s_t 12 (upd (s_t.2.2.1 12) (b4 : Int32).toNatClampNeg (s_t.2.2.1 12 (b1 : Int32).toNatClampNeg))) (fun t26 => bnd (b4 + 1 : Int32) (fun v28 => some (.inl ((t26, v28))))) else none else bnd (oA s_t 12 (upd (s_t.2.2.1 12) (b4 : Int32).toNatClampNeg (s_t.2.2.1 12 (b4 : Int32).toNatClampNeg))) (fun t21 => bnd (b4 + 1 : Int32) (fun v23 => some (.inl ((t21, v23)))))) else none)
noncomputable def f_X8_mergeClasses_2 : (OS × Int32) → Option ((OS × Int32) ⊕ (OS)) := fun z => match z with | (s_t, b1) => (if (s_t.1 0) ≤ b1 then some (.inr s_t) else (if 16 ≤ b1 then some (.inr s_t) else if inb b1 16 = true then bnd (s_t.2.2.1 11 (b1 : Int32).toNatClampNeg : Int32) (fun v4 => (if v4 < 0 then bnd (b1 + 1 : Int32) (fun v7 => some (.inl ((s_t, v7)))) else (if 16 ≤ v4 then bnd (b1 + 1 : Int32) (fun v10 => some (.inl ((s_t, v10)))) else if inb v4 16 = true then (if (s_t.2.2.1 12 (v4 : Int32).toNatClampNeg) = (s_t.2.2.1 12 (b1 : Int32).toNatClampNeg) then bnd (b1 + 1 : Int32) (fun v14 => some (.inl ((s_t, v14)))) else bnd (s_t.2.2.1 12 (v4 : Int32).toNatClampNeg : Int32) (fun v16 => (lpv (f_X8_mergeClasses_58 b1 v16) ((s_t, 0))).bind (fun x30 => bnd (b1 + 1 : Int32) (fun v33 => some (.inl ((x30, v33))))))) else none))) else none))
noncomputable def f_X8_mergeClasses (st : OS) : Option (OS) := (lpv (f_X8_mergeClasses_2) ((st, 0))).bind (fun x35 => some x35)
set_option maxHeartbeats 4000000 in
set_option maxRecDepth 100000 in
theorem w_X8_mergeClasses_58 {p : Program} {l : Launch} {e : Env} {s : State} {m : MethodId} {args : Array Value} {below : List Frame} {meth : Method} {c : Code} {Q : State → Prop} {G : mG} {h : mM} {q : Nat → Nat} (hq : oinj LX8 q) (X : mX G p m c cX8_mergeClasses 5 s args RX8) (b1 : Int32) (b3 : Int32) : ∀ (z : OS × Int32) (r : OS), lpv (f_X8_mergeClasses_58 b1 b3) z = some r → ∀ (H : Heap) (locs : List Loc) (ls : Array Slot), mH G (oset LX8 G q z.1 h) s.heap H locs → lv_has ls 5 [(0, .ref (q 15)), (1, .int b1), (3, .int b3), (4, .int z.2)] → (∀ (H : Heap) (locs : List Loc) (ls : Array Slot), mH G (oset LX8 G q r h) s.heap H locs → lv_has ls 5 [(0, .ref (q 15)), (1, .int b1)] → W p l e rm_X8_mergeClasses s m args below meth c H locs 0 0 Q (F0 m 105 ls [])) → W p l e rm_X8_mergeClasses s m args below meth c H locs 0 0 Q (F0 m 58 ls []) := by
  refine lpv_rec ?_
  intro z r x hF hx H locs ls hH hl K0
  obtain ⟨s_t, b4⟩ := z
  dsimp only [f_X8_mergeClasses_58] at hF
  try dsimp only at hH hl
  refine lv_iload X.x X.b (dk DX8_mergeClasses_0 35 rfl) (lv_at hl 3 rfl) ?_
  refine lv_bipush (v := 16) X.x X.b (dk DX8_mergeClasses_0 36 rfl) (by decide) ?_
  refine lv_icmp_ge (tgt := 105) X.x X.b (dk DX8_mergeClasses_0 37 rfl) (by decide) (fun c18 => ?_) (fun c18 => ?_)
  · replace hF := if_t hF c18
    have hr9 := lp_r hF hx
    subst hr9
    exact K0 _ _ _ hH (lv_sub hl [0, 1] rfl)
  · replace hF := if_f hF c18
    refine lv_aload_n X.x X.b (dk DX8_mergeClasses_0 38 rfl) rfl (lv_at hl 0 rfl) ?_
    refine og_getR (t := 0) OX8 X hq hH 12 (by decide) rfl kF_X8_45 (dk DX8_mergeClasses_0 39 rfl) ?_
    refine lv_iload X.x X.b (dk DX8_mergeClasses_0 40 rfl) (lv_at hl 3 rfl) ?_
    refine lv_aload_n X.x X.b (dk DX8_mergeClasses_0 41 rfl) rfl (lv_at hl 0 rfl) ?_
    refine og_getR (t := 0) OX8 X hq hH 12 (by decide) rfl kF_X8_45 (dk DX8_mergeClasses_0 42 rfl) ?_
    refine lv_iload X.x X.b (dk DX8_mergeClasses_0 43 rfl) (lv_at hl 3 rfl) ?_
    obtain ⟨c19, hF⟩ := gd hF
    refine og_iald X hq hH 12 (by decide) rfl (inb_in c19) (dk DX8_mergeClasses_0 44 rfl) ?_
    refine lv_iload_n X.x X.b (dk DX8_mergeClasses_0 45 rfl) rfl (lv_at hl 2 rfl) ?_
    refine lv_icmp_ne (tgt := 91) X.x X.b (dk DX8_mergeClasses_0 46 rfl) (by decide) (fun c20 => ?_) (fun c20 => ?_)
    · replace hF := if_f hF c20
      refine lv_aload_n X.x X.b (dk DX8_mergeClasses_0 52 rfl) rfl (lv_at hl 0 rfl) ?_
      refine og_getR (t := 0) OX8 X hq hH 12 (by decide) rfl kF_X8_45 (dk DX8_mergeClasses_0 53 rfl) ?_
      refine lv_iload X.x X.b (dk DX8_mergeClasses_0 54 rfl) (lv_at hl 3 rfl) ?_
      refine og_iald X hq hH 12 (by decide) rfl (inb_in c19) (dk DX8_mergeClasses_0 55 rfl) ?_
      refine og_iast X hq hH 12 (by decide) rfl (inb_in c19) (dk DX8_mergeClasses_0 56 rfl) (fun H locs hH => ?_)
      obtain ⟨t21, e22⟩ : ∃ y, y = oA s_t 12 (upd (s_t.2.2.1 12) (b4 : Int32).toNatClampNeg (s_t.2.2.1 12 (b4 : Int32).toNatClampNeg)) := ⟨_, rfl⟩
      rw [← e22] at hH
      replace hF := bnd_e hF e22
      obtain ⟨v23, e24⟩ : ∃ y : Int32, y = b4 + 1 := ⟨_, rfl⟩
      replace hF := bnd_e hF e24
      refine lv_iinc (v := v23) (lv' := [(4, .int v23), (0, .ref (q 15)), (1, .int b1), (3, .int b3)]) X.x X.b (dk DX8_mergeClasses_0 57 rfl) hl (k := 3) rfl (by rw [e24]; rfl) (by decide) rfl (fun ls hl => ?_)
      replace hl : lv_has ls 5 [(0, .ref (q 15)), (1, .int b1), (3, .int b3), (4, .int v23)] := lv_sub hl [1, 2, 3, 0] rfl
      refine lv_goto (tgt := 58) X.x X.b (dk DX8_mergeClasses_0 58 rfl) (by decide) ?_
      exact (lp_l hF hx) _ _ _ hH (lv_sub hl [0, 1, 2, 3] rfl) K0
    · replace hF := if_t hF c20
      refine lv_aload_n X.x X.b (dk DX8_mergeClasses_0 47 rfl) rfl (lv_at hl 0 rfl) ?_
      refine og_getR (t := 0) OX8 X hq hH 12 (by decide) rfl kF_X8_45 (dk DX8_mergeClasses_0 48 rfl) ?_
      refine lv_iload_n X.x X.b (dk DX8_mergeClasses_0 49 rfl) rfl (lv_at hl 1 rfl) ?_
      obtain ⟨c25, hF⟩ := gd hF
      refine og_iald X hq hH 12 (by decide) rfl (inb_in c25) (dk DX8_mergeClasses_0 50 rfl) ?_
      refine lv_goto (tgt := 98) X.x X.b (dk DX8_mergeClasses_0 51 rfl) (by decide) ?_
      refine og_iast X hq hH 12 (by decide) rfl (inb_in c19) (dk DX8_mergeClasses_0 56 rfl) (fun H locs hH => ?_)
      obtain ⟨t26, e27⟩ : ∃ y, y = oA s_t 12 (upd (s_t.2.2.1 12) (b4 : Int32).toNatClampNeg (s_t.2.2.1 12 (b1 : Int32).toNatClampNeg)) := ⟨_, rfl⟩
      rw [← e27] at hH
      replace hF := bnd_e hF e27
      obtain ⟨v28, e29⟩ : ∃ y : Int32, y = b4 + 1 := ⟨_, rfl⟩
      replace hF := bnd_e hF e29
      refine lv_iinc (v := v28) (lv' := [(4, .int v28), (0, .ref (q 15)), (1, .int b1), (3, .int b3)]) X.x X.b (dk DX8_mergeClasses_0 57 rfl) hl (k := 3) rfl (by rw [e29]; rfl) (by decide) rfl (fun ls hl => ?_)
      replace hl : lv_has ls 5 [(0, .ref (q 15)), (1, .int b1), (3, .int b3), (4, .int v28)] := lv_sub hl [1, 2, 3, 0] rfl
      refine lv_goto (tgt := 58) X.x X.b (dk DX8_mergeClasses_0 58 rfl) (by decide) ?_
      exact (lp_l hF hx) _ _ _ hH (lv_sub hl [0, 1, 2, 3] rfl) K0
set_option maxHeartbeats 4000000 in
set_option maxRecDepth 100000 in
theorem w_X8_mergeClasses_2 {p : Program} {l : Launch} {e : Env} {s : State} {m : MethodId} {args : Array Value} {below : List Frame} {meth : Method} {c : Code} {Q : State → Prop} {G : mG} {h : mM} {q : Nat → Nat} (hq : oinj LX8 q) (X : mX G p m c cX8_mergeClasses 5 s args RX8) : ∀ (z : OS × Int32) (r : OS), lpv (f_X8_mergeClasses_2) z = some r → ∀ (H : Heap) (locs : List Loc) (ls : Array Slot), mH G (oset LX8 G q z.1 h) s.heap H locs → lv_has ls 5 [(0, .ref (q 15)), (1, .int z.2)] → (∀ (H : Heap) (locs : List Loc) (ls : Array Slot), mH G (oset LX8 G q r h) s.heap H locs → lv_has ls 5 [] → W p l e rm_X8_mergeClasses s m args below meth c H locs 0 0 Q (F0 m 111 ls [])) → W p l e rm_X8_mergeClasses s m args below meth c H locs 0 0 Q (F0 m 2 ls []) := by
  refine lpv_rec ?_
  intro z r x hF hx H locs ls hH hl K0
  obtain ⟨s_t, b1⟩ := z
  dsimp only [f_X8_mergeClasses_2] at hF
  try dsimp only at hH hl
  refine lv_iload_n X.x X.b (dk DX8_mergeClasses_0 2 rfl) rfl (lv_at hl 1 rfl) ?_
  refine lv_aload_n X.x X.b (dk DX8_mergeClasses_0 3 rfl) rfl (lv_at hl 0 rfl) ?_
  refine og_getI OX8 X hq hH 0 (by decide) rfl kF_X8_83 (dk DX8_mergeClasses_0 4 rfl) ?_
  refine lv_icmp_ge (tgt := 111) X.x X.b (dk DX8_mergeClasses_0 5 rfl) (by decide) (fun c1 => ?_) (fun c1 => ?_)
  · replace hF := if_t hF c1
    have hr9 := lp_r hF hx
    subst hr9
    exact K0 _ _ _ hH (lv_sub hl [] rfl)
  · replace hF := if_f hF c1
    refine lv_iload_n X.x X.b (dk DX8_mergeClasses_0 6 rfl) rfl (lv_at hl 1 rfl) ?_
    refine lv_bipush (v := 16) X.x X.b (dk DX8_mergeClasses_0 7 rfl) (by decide) ?_
    refine lv_icmp_ge (tgt := 111) X.x X.b (dk DX8_mergeClasses_0 8 rfl) (by decide) (fun c2 => ?_) (fun c2 => ?_)
    · replace hF := if_t hF c2
      have hr9 := lp_r hF hx
      subst hr9
      exact K0 _ _ _ hH (lv_sub hl [] rfl)
    · replace hF := if_f hF c2
      refine lv_aload_n X.x X.b (dk DX8_mergeClasses_0 9 rfl) rfl (lv_at hl 0 rfl) ?_
      refine og_getR (t := 0) OX8 X hq hH 11 (by decide) rfl kF_X8_42 (dk DX8_mergeClasses_0 10 rfl) ?_
      refine lv_iload_n X.x X.b (dk DX8_mergeClasses_0 11 rfl) rfl (lv_at hl 1 rfl) ?_
      obtain ⟨c3, hF⟩ := gd hF
      refine og_iald X hq hH 11 (by decide) rfl (inb_in c3) (dk DX8_mergeClasses_0 12 rfl) ?_
      refine lv_topi (fun v4 e5 => ?_)
      replace hF := bnd_e hF e5
      refine lv_istore_n (lv' := [(2, .int v4), (0, .ref (q 15)), (1, .int b1)]) X.x X.b (dk DX8_mergeClasses_0 13 rfl) rfl hl (by decide) rfl (fun ls hl => ?_)
      replace hl : lv_has ls 5 [(0, .ref (q 15)), (1, .int b1), (2, .int v4)] := lv_sub hl [1, 2, 0] rfl
      refine lv_iload_n X.x X.b (dk DX8_mergeClasses_0 14 rfl) rfl (lv_at hl 2 rfl) ?_
      refine lv_if_lt (tgt := 105) X.x X.b (dk DX8_mergeClasses_0 15 rfl) (by decide) (fun c6 => ?_) (fun c6 => ?_)
      · replace hF := if_t hF c6
        obtain ⟨v7, e8⟩ : ∃ y : Int32, y = b1 + 1 := ⟨_, rfl⟩
        replace hF := bnd_e hF e8
        refine lv_iinc (v := v7) (lv' := [(1, .int v7), (0, .ref (q 15)), (2, .int v4)]) X.x X.b (dk DX8_mergeClasses_0 59 rfl) hl (k := 1) rfl (by rw [e8]; rfl) (by decide) rfl (fun ls hl => ?_)
        replace hl : lv_has ls 5 [(0, .ref (q 15)), (1, .int v7)] := lv_sub hl [1, 0] rfl
        refine lv_goto (tgt := 2) X.x X.b (dk DX8_mergeClasses_1 0 rfl) (by decide) ?_
        exact (lp_l hF hx) _ _ _ hH (lv_sub hl [0, 1] rfl) K0
      · replace hF := if_f hF c6
        refine lv_iload_n X.x X.b (dk DX8_mergeClasses_0 16 rfl) rfl (lv_at hl 2 rfl) ?_
        refine lv_bipush (v := 16) X.x X.b (dk DX8_mergeClasses_0 17 rfl) (by decide) ?_
        refine lv_icmp_ge (tgt := 105) X.x X.b (dk DX8_mergeClasses_0 18 rfl) (by decide) (fun c9 => ?_) (fun c9 => ?_)
        · replace hF := if_t hF c9
          obtain ⟨v10, e11⟩ : ∃ y : Int32, y = b1 + 1 := ⟨_, rfl⟩
          replace hF := bnd_e hF e11
          refine lv_iinc (v := v10) (lv' := [(1, .int v10), (0, .ref (q 15)), (2, .int v4)]) X.x X.b (dk DX8_mergeClasses_0 59 rfl) hl (k := 1) rfl (by rw [e11]; rfl) (by decide) rfl (fun ls hl => ?_)
          replace hl : lv_has ls 5 [(0, .ref (q 15)), (1, .int v10)] := lv_sub hl [1, 0] rfl
          refine lv_goto (tgt := 2) X.x X.b (dk DX8_mergeClasses_1 0 rfl) (by decide) ?_
          exact (lp_l hF hx) _ _ _ hH (lv_sub hl [0, 1] rfl) K0
        · replace hF := if_f hF c9
          refine lv_aload_n X.x X.b (dk DX8_mergeClasses_0 19 rfl) rfl (lv_at hl 0 rfl) ?_
          refine og_getR (t := 0) OX8 X hq hH 12 (by decide) rfl kF_X8_45 (dk DX8_mergeClasses_0 20 rfl) ?_
          refine lv_iload_n X.x X.b (dk DX8_mergeClasses_0 21 rfl) rfl (lv_at hl 2 rfl) ?_
          obtain ⟨c12, hF⟩ := gd hF
          refine og_iald X hq hH 12 (by decide) rfl (inb_in c12) (dk DX8_mergeClasses_0 22 rfl) ?_
          refine lv_aload_n X.x X.b (dk DX8_mergeClasses_0 23 rfl) rfl (lv_at hl 0 rfl) ?_
          refine og_getR (t := 0) OX8 X hq hH 12 (by decide) rfl kF_X8_45 (dk DX8_mergeClasses_0 24 rfl) ?_
          refine lv_iload_n X.x X.b (dk DX8_mergeClasses_0 25 rfl) rfl (lv_at hl 1 rfl) ?_
          refine og_iald X hq hH 12 (by decide) rfl (inb_in c3) (dk DX8_mergeClasses_0 26 rfl) ?_
          refine lv_icmp_eq (tgt := 105) X.x X.b (dk DX8_mergeClasses_0 27 rfl) (by decide) (fun c13 => ?_) (fun c13 => ?_)
          · replace hF := if_t hF c13
            obtain ⟨v14, e15⟩ : ∃ y : Int32, y = b1 + 1 := ⟨_, rfl⟩
            replace hF := bnd_e hF e15
            refine lv_iinc (v := v14) (lv' := [(1, .int v14), (0, .ref (q 15)), (2, .int v4)]) X.x X.b (dk DX8_mergeClasses_0 59 rfl) hl (k := 1) rfl (by rw [e15]; rfl) (by decide) rfl (fun ls hl => ?_)
            replace hl : lv_has ls 5 [(0, .ref (q 15)), (1, .int v14)] := lv_sub hl [1, 0] rfl
            refine lv_goto (tgt := 2) X.x X.b (dk DX8_mergeClasses_1 0 rfl) (by decide) ?_
            exact (lp_l hF hx) _ _ _ hH (lv_sub hl [0, 1] rfl) K0
          · replace hF := if_f hF c13
            refine lv_aload_n X.x X.b (dk DX8_mergeClasses_0 28 rfl) rfl (lv_at hl 0 rfl) ?_
            refine og_getR (t := 0) OX8 X hq hH 12 (by decide) rfl kF_X8_45 (dk DX8_mergeClasses_0 29 rfl) ?_
            refine lv_iload_n X.x X.b (dk DX8_mergeClasses_0 30 rfl) rfl (lv_at hl 2 rfl) ?_
            refine og_iald X hq hH 12 (by decide) rfl (inb_in c12) (dk DX8_mergeClasses_0 31 rfl) ?_
            refine lv_topi (fun v16 e17 => ?_)
            replace hF := bnd_e hF e17
            refine lv_istore_n (lv' := [(3, .int v16), (0, .ref (q 15)), (1, .int b1), (2, .int v4)]) X.x X.b (dk DX8_mergeClasses_0 32 rfl) rfl hl (by decide) rfl (fun ls hl => ?_)
            replace hl : lv_has ls 5 [(0, .ref (q 15)), (1, .int b1), (3, .int v16)] := lv_sub hl [1, 2, 0] rfl
            refine lv_iconst (v := 0) X.x X.b (dk DX8_mergeClasses_0 33 rfl) (by decide) ?_
            refine lv_istore (lv' := [(4, .int 0), (0, .ref (q 15)), (1, .int b1), (3, .int v16)]) X.x X.b (dk DX8_mergeClasses_0 34 rfl) hl (by decide) rfl (fun ls hl => ?_)
            replace hl : lv_has ls 5 [(0, .ref (q 15)), (1, .int b1), (3, .int v16), (4, .int 0)] := lv_sub hl [1, 2, 3, 0] rfl
            obtain ⟨x30, e31, hF⟩ := bd hF
            replace hl : lv_has ls 5 [(0, .ref (q 15)), (1, .int b1), (3, .int v16), (4, .int 0)] := lv_sub hl [0, 1, 2, 3] rfl
            refine w_X8_mergeClasses_58 hq X b1 v16 _ _ e31 _ _ _ hH hl (fun H locs ls hH hl => ?_)
            obtain ⟨v33, e34⟩ : ∃ y : Int32, y = b1 + 1 := ⟨_, rfl⟩
            replace hF := bnd_e hF e34
            refine lv_iinc (v := v33) (lv' := [(1, .int v33), (0, .ref (q 15))]) X.x X.b (dk DX8_mergeClasses_0 59 rfl) hl (k := 1) rfl (by rw [e34]; rfl) (by decide) rfl (fun ls hl => ?_)
            replace hl : lv_has ls 5 [(0, .ref (q 15)), (1, .int v33)] := lv_sub hl [1, 0] rfl
            refine lv_goto (tgt := 2) X.x X.b (dk DX8_mergeClasses_1 0 rfl) (by decide) ?_
            exact (lp_l hF hx) _ _ _ hH (lv_sub hl [0, 1] rfl) K0
set_option maxHeartbeats 4000000 in
set_option maxRecDepth 100000 in
theorem c_X8_mergeClasses {l : Launch} {G : mG} {h : mM} {q : Nat → Nat} (hq : oinj LX8 q) {st : OS} {x : OS} (hF : f_X8_mergeClasses st = some x) : cQ l G yX8_mergeClasses cX8_mergeClasses 5 none rm_X8_mergeClasses [.ref (q 15)] (oset LX8 G q st h) (mQv G (fun h1 => h1 = oset LX8 G q x h)) := by
  refine mp_of (by decide +kernel) (Nat.le_of_ble_eq_true rfl) ?_
  intro p e s m below meth c X hr hlk hH hname ls hl
  dsimp only [f_X8_mergeClasses] at hF
  replace hl : lv_has ls 5 [(0, .ref (q 15))] := hl
  refine lv_iconst (v := 0) X.x X.b (dk DX8_mergeClasses_0 0 rfl) (by decide) ?_
  refine lv_istore_n (lv' := [(1, .int 0), (0, .ref (q 15))]) X.x X.b (dk DX8_mergeClasses_0 1 rfl) rfl hl (by decide) rfl (fun ls hl => ?_)
  replace hl : lv_has ls 5 [(0, .ref (q 15)), (1, .int 0)] := lv_sub hl [1, 0] rfl
  obtain ⟨x35, e36, hF⟩ := bd hF
  replace hl : lv_has ls 5 [(0, .ref (q 15)), (1, .int 0)] := lv_sub hl [0, 1] rfl
  refine w_X8_mergeClasses_2 hq X _ _ e36 _ _ _ hH hl (fun H locs ls hH hl => ?_)
  cases sm hF
  exact mr_vret X hr hlk hH rfl (dk DX8_mergeClasses_1 1 rfl)
-- X8_widenReach
abbrev rm_X8_widenReach : Room := { frames := 26, cells := 0, slots := 0, locals := 670 }
theorem hd_X8_widenReach : mHd yX8_widenReach 1 := ⟨by decide +kernel, by decide +kernel, by decide +kernel⟩
theorem DX8_widenReach_0 : ∀ t ∈ ([(0, .aload_n 0, 1), (1, .iload_n 1, 1), (2, .invokevirtual 100, 3), (5, .istore_n 2, 1), (6, .iload_n 2, 1), (7, .iconst (-1), 1), (8, .if_icmp .ne 5, 3), (11, .iconst 1, 1), (12, .ireturn, 1), (13, .aload_n 0, 1), (14, .getfield 30, 3), (17, .iload_n 1, 1), (18, .bipush 64, 2), (20, .imul, 1), (21, .iload_n 2, 1), (22, .iadd, 1), (23, .laload, 1), (24, .lstore_n 3, 1), (25, .lload_n 3, 1), (26, .invokestatic 103, 3), (29, .istore 5, 2), (31, .iload 5, 2), (33, .iconst 1, 1), (34, .iadd, 1), (35, .istore 6, 2), (37, .iload 6, 2), (39, .aload_n 0, 1), (40, .getfield 83, 3), (43, .if_icmp .ge 79, 3), (46, .iload 6, 2), (48, .bipush 16, 2), (50, .if_icmp .ge 72, 3), (53, .lload_n 3, 1), (54, .iload 6, 2), (56, .invokestatic 111, 3), (59, .ifCond .eq 57, 3), (62, .aload_n 0, 1), (63, .iload 5, 2), (65, .invokevirtual 115, 3), (68, .iload 6, 2), (70, .invokestatic 111, 3), (73, .ifCond .ne 43, 3), (76, .aload_n 0, 1), (77, .iload_n 1, 1), (78, .iload_n 2, 1), (79, .iload 5, 2), (81, .iload 6, 2), (83, .invokevirtual 107, 3), (86, .aload_n 0, 1), (87, .iload_n 1, 1), (88, .iconst 1, 1), (89, .iadd, 1), (90, .invokestatic 73, 3), (93, .ifCond .eq 10, 3), (96, .aload_n 0, 1), (97, .invokevirtual 118, 3), (100, .goto 16, 3), (103, .lload_n 3, 1), (104, .aload_n 0, 1), (105, .iload 6, 2)] : List (Nat × Instr × Nat)), decode cX8_widenReach t.1 = .ok (t.2.1, t.2.2) := by decide +kernel
theorem DX8_widenReach_1 : ∀ t ∈ ([(107, .invokevirtual 115, 3), (110, .ldc2_w 121, 3), (113, .lxor, 1), (114, .land, 1), (115, .lstore_n 3, 1), (116, .iinc 6 1, 3), (119, .goto (-82), 3), (122, .aload_n 0, 1), (123, .getfield 48, 3), (126, .iload_n 1, 1), (127, .aload_n 0, 1), (128, .iload 5, 2), (130, .invokevirtual 115, 3), (133, .lastore, 1), (134, .aload_n 0, 1), (135, .getfield 48, 3), (138, .iload_n 1, 1), (139, .laload, 1), (140, .invokestatic 123, 3), (143, .ireturn, 1)] : List (Nat × Instr × Nat)), decode cX8_widenReach t.1 = .ok (t.2.1, t.2.2) := by decide +kernel
noncomputable def f_X8_widenReach_37 (b1 : Int32) (b2 : Int32) (b5 : Int32) : (OS × Int64 × Int32) → Option ((OS × Int64 × Int32) ⊕ (OS)) := fun z => match z with | (s_t, b3, b6) => (if (s_t.1 0) ≤ b6 then some (.inr s_t) else (if 16 ≤ b6 then some (.inr s_t) else (f_X10_has b3 b6).bind (fun x15 => (if x15 = 0 then bnd (b6 + 1 : Int32) (fun v19 => some (.inl ((s_t, b3, v19)))) else (f_X8_classOf s_t b5).bind (fun x21 => (f_X10_has x21 b6).bind (fun x24 => (if x24 = 0 then (f_X8_tellApart s_t b1 b2 b5 b6).bind (fun x30 => (f_X8_carryOn 20 x30 (b1 + 1)).bind (fun x33 => match x33 with | (v35, t36) => (if v35 = 0 then (f_X8_classOf t36 b6).bind (fun x38 => bnd (b3 &&& (x38 ^^^ ((-1))) : Int64) (fun v41 => bnd (b6 + 1 : Int32) (fun v43 => some (.inl ((t36, v41, v43)))))) else (f_X8_mergeClasses t36).bind (fun x45 => bnd (b6 + 1 : Int32) (fun v48 => some (.inl ((x45, b3, v48)))))))) else bnd (b6 + 1 : Int32) (fun v28 => some (.inl ((s_t, b3, v28)))))))))))
noncomputable def f_X8_widenReach (st : OS) (a0 : Int32) : Option (Int32 × OS) := (f_X8_undecided st a0).bind (fun x1 => (if x1 = ((-1)) then some ((1, st)) else if inb ((a0 * 64) + x1) 1088 = true then bnd (st.2.2.2 7 ((a0 * 64) + x1 : Int32).toNatClampNeg : Int64) (fun v6 => (f_X10_lowest v6).bind (fun x8 => bnd (x8 + 1 : Int32) (fun v11 => (lpv (f_X8_widenReach_37 a0 x1 x8) ((st, v6, v11))).bind (fun x50 => (f_X8_classOf x50 x8).bind (fun x53 => if inb a0 16 = true then bnd (oB x50 13 (vp_updL (x50.2.2.2 13) (a0 : Int32).toNatClampNeg x53)) (fun t57 => (f_J13_bitCount_95d88 (t57.2.2.2 13 (a0 : Int32).toNatClampNeg)).bind (fun x59 => some ((x59, t57)))) else none))))) else none))
set_option maxHeartbeats 4000000 in
set_option maxRecDepth 100000 in
theorem w_X8_widenReach_37 {p : Program} {l : Launch} {e : Env} {s : State} {m : MethodId} {args : Array Value} {below : List Frame} {meth : Method} {c : Code} {Q : State → Prop} {G : mG} {h : mM} {q : Nat → Nat} (hq : oinj LX8 q) (X : mX G p m c cX8_widenReach 7 s args RX8) (b1 : Int32) (b2 : Int32) (b5 : Int32) : ∀ (z : OS × Int64 × Int32) (r : OS), lpv (f_X8_widenReach_37 b1 b2 b5) z = some r → ∀ (H : Heap) (locs : List Loc) (ls : Array Slot), mH G (oset LX8 G q z.1 h) s.heap H locs → lv_has ls 7 [(0, .ref (q 15)), (1, .int b1), (2, .int b2), (3, .long z.2.1), (5, .int b5), (6, .int z.2.2)] → (∀ (H : Heap) (locs : List Loc) (ls : Array Slot), mH G (oset LX8 G q r h) s.heap H locs → lv_has ls 7 [(0, .ref (q 15)), (1, .int b1), (5, .int b5)] → W p l e rm_X8_widenReach s m args below meth c H locs 0 0 Q (F0 m 122 ls [])) → W p l e rm_X8_widenReach s m args below meth c H locs 0 0 Q (F0 m 37 ls []) := by
  refine lpv_rec ?_
  intro z r x hF hx H locs ls hH hl K0
  obtain ⟨s_t, b3, b6⟩ := z
  dsimp only [f_X8_widenReach_37] at hF
  try dsimp only at hH hl
  refine lv_iload X.x X.b (dk DX8_widenReach_0 25 rfl) (lv_at hl 5 rfl) ?_
  refine lv_aload_n X.x X.b (dk DX8_widenReach_0 26 rfl) rfl (lv_at hl 0 rfl) ?_
  refine og_getI OX8 X hq hH 0 (by decide) rfl kF_X8_83 (dk DX8_widenReach_0 27 rfl) ?_
  refine lv_icmp_ge (tgt := 122) X.x X.b (dk DX8_widenReach_0 28 rfl) (by decide) (fun c13 => ?_) (fun c13 => ?_)
  · replace hF := if_t hF c13
    have hr9 := lp_r hF hx
    subst hr9
    exact K0 _ _ _ hH (lv_sub hl [0, 1, 4] rfl)
  · replace hF := if_f hF c13
    refine lv_iload X.x X.b (dk DX8_widenReach_0 29 rfl) (lv_at hl 5 rfl) ?_
    refine lv_bipush (v := 16) X.x X.b (dk DX8_widenReach_0 30 rfl) (by decide) ?_
    refine lv_icmp_ge (tgt := 122) X.x X.b (dk DX8_widenReach_0 31 rfl) (by decide) (fun c14 => ?_) (fun c14 => ?_)
    · replace hF := if_t hF c14
      have hr9 := lp_r hF hx
      subst hr9
      exact K0 _ _ _ hH (lv_sub hl [0, 1, 4] rfl)
    · replace hF := if_f hF c14
      refine lv_lload_n X.x X.b (dk DX8_widenReach_0 32 rfl) rfl (lv_at hl 3 rfl) ?_
      refine lv_iload X.x X.b (dk DX8_widenReach_0 33 rfl) (lv_at hl 5 rfl) ?_
      obtain ⟨x15, e16, hF⟩ := bd hF
      refine mr_ci0 hH ⟨rfl, rfl⟩ (mr_runS (As := [.long b3, .int b6]) (rest := []) X hH (c_X10_has e16) kM_X8_111 kT_X10_has kN_X10 kC_X10_has hd_X10_has ⟨Nat.le_of_ble_eq_true rfl, Nat.le_of_ble_eq_true rfl⟩ rfl hl.1 (Nat.le_of_ble_eq_true rfl) (dk DX8_widenReach_0 34 rfl) ⟨Nat.zero_le _, Nat.zero_le _⟩) (fun r h1 H locs hp hH => ?_)
      obtain ⟨hr1, hr2⟩ := hp; rw [hr1]; rw [hr2] at hH; clear hr1 hr2
      refine lv_if_eq (tgt := 116) X.x X.b (dk DX8_widenReach_0 35 rfl) (by decide) (fun c18 => ?_) (fun c18 => ?_)
      · replace hF := if_t hF c18
        obtain ⟨v19, e20⟩ : ∃ y : Int32, y = b6 + 1 := ⟨_, rfl⟩
        replace hF := bnd_e hF e20
        refine lv_iinc (v := v19) (lv' := [(6, .int v19), (0, .ref (q 15)), (1, .int b1), (2, .int b2), (3, .long b3), (5, .int b5)]) X.x X.b (dk DX8_widenReach_1 5 rfl) hl (k := 5) rfl (by rw [e20]; rfl) (by decide) rfl (fun ls hl => ?_)
        replace hl : lv_has ls 7 [(0, .ref (q 15)), (1, .int b1), (2, .int b2), (3, .long b3), (5, .int b5), (6, .int v19)] := lv_sub hl [1, 2, 3, 4, 5, 0] rfl
        refine lv_goto (tgt := 37) X.x X.b (dk DX8_widenReach_1 6 rfl) (by decide) ?_
        exact (lp_l hF hx) _ _ _ hH (lv_sub hl [0, 1, 2, 3, 4, 5] rfl) K0
      · replace hF := if_f hF c18
        refine lv_aload_n X.x X.b (dk DX8_widenReach_0 36 rfl) rfl (lv_at hl 0 rfl) ?_
        refine lv_iload X.x X.b (dk DX8_widenReach_0 37 rfl) (lv_at hl 4 rfl) ?_
        obtain ⟨x21, e22, hF⟩ := bd hF
        refine mr_cl0 hH ⟨rfl, rfl⟩ (mr_runV (As := [.int b5]) (rest := []) X hH (c_X8_classOf hq e22) ((oset_at hq (Nat.le_refl _) ohas_N).trans (congrArg some ocell_N)) OX8.1 kM_X8_115 kI_X8_classOf kS_X8_classOf kN_X8 kC_X8_classOf hd_X8_classOf ⟨Nat.le_of_ble_eq_true rfl, Nat.le_of_ble_eq_true rfl⟩ rfl hl.1 (Nat.le_of_ble_eq_true rfl) (dk DX8_widenReach_0 38 rfl) ⟨Nat.zero_le _, Nat.zero_le _⟩) (fun r h1 H locs hp hH => ?_)
        obtain ⟨hr1, hr2⟩ := hp; rw [hr1]; rw [hr2] at hH; clear hr1 hr2
        refine lv_iload X.x X.b (dk DX8_widenReach_0 39 rfl) (lv_at hl 5 rfl) ?_
        obtain ⟨x24, e25, hF⟩ := bd hF
        refine mr_ci0 hH ⟨rfl, rfl⟩ (mr_runS (As := [.long x21, .int b6]) (rest := []) X hH (c_X10_has e25) kM_X8_111 kT_X10_has kN_X10 kC_X10_has hd_X10_has ⟨Nat.le_of_ble_eq_true rfl, Nat.le_of_ble_eq_true rfl⟩ rfl hl.1 (Nat.le_of_ble_eq_true rfl) (dk DX8_widenReach_0 40 rfl) ⟨Nat.zero_le _, Nat.zero_le _⟩) (fun r h1 H locs hp hH => ?_)
        obtain ⟨hr1, hr2⟩ := hp; rw [hr1]; rw [hr2] at hH; clear hr1 hr2
        refine lv_if_ne (tgt := 116) X.x X.b (dk DX8_widenReach_0 41 rfl) (by decide) (fun c27 => ?_) (fun c27 => ?_)
        · replace hF := if_f hF c27
          obtain ⟨v28, e29⟩ : ∃ y : Int32, y = b6 + 1 := ⟨_, rfl⟩
          replace hF := bnd_e hF e29
          refine lv_iinc (v := v28) (lv' := [(6, .int v28), (0, .ref (q 15)), (1, .int b1), (2, .int b2), (3, .long b3), (5, .int b5)]) X.x X.b (dk DX8_widenReach_1 5 rfl) hl (k := 5) rfl (by rw [e29]; rfl) (by decide) rfl (fun ls hl => ?_)
          replace hl : lv_has ls 7 [(0, .ref (q 15)), (1, .int b1), (2, .int b2), (3, .long b3), (5, .int b5), (6, .int v28)] := lv_sub hl [1, 2, 3, 4, 5, 0] rfl
          refine lv_goto (tgt := 37) X.x X.b (dk DX8_widenReach_1 6 rfl) (by decide) ?_
          exact (lp_l hF hx) _ _ _ hH (lv_sub hl [0, 1, 2, 3, 4, 5] rfl) K0
        · replace hF := if_t hF c27
          refine lv_aload_n X.x X.b (dk DX8_widenReach_0 42 rfl) rfl (lv_at hl 0 rfl) ?_
          refine lv_iload_n X.x X.b (dk DX8_widenReach_0 43 rfl) rfl (lv_at hl 1 rfl) ?_
          refine lv_iload_n X.x X.b (dk DX8_widenReach_0 44 rfl) rfl (lv_at hl 2 rfl) ?_
          refine lv_iload X.x X.b (dk DX8_widenReach_0 45 rfl) (lv_at hl 4 rfl) ?_
          refine lv_iload X.x X.b (dk DX8_widenReach_0 46 rfl) (lv_at hl 5 rfl) ?_
          obtain ⟨x30, e31, hF⟩ := bd hF
          refine mr_cv0 hH ⟨rfl, rfl⟩ (mr_runV (As := [.int b1, .int b2, .int b5, .int b6]) (rest := []) X hH (c_X8_tellApart hq e31) ((oset_at hq (Nat.le_refl _) ohas_N).trans (congrArg some ocell_N)) OX8.1 kM_X8_107 kI_X8_tellApart kS_X8_tellApart kN_X8 kC_X8_tellApart hd_X8_tellApart ⟨Nat.le_of_ble_eq_true rfl, Nat.le_of_ble_eq_true rfl⟩ rfl hl.1 (Nat.le_of_ble_eq_true rfl) (dk DX8_widenReach_0 47 rfl) ⟨Nat.zero_le _, Nat.zero_le _⟩) (fun h1 H locs hp hH => ?_)
          rw [hp] at hH; clear hp
          refine lv_aload_n X.x X.b (dk DX8_widenReach_0 48 rfl) rfl (lv_at hl 0 rfl) ?_
          refine lv_iload_n X.x X.b (dk DX8_widenReach_0 49 rfl) rfl (lv_at hl 1 rfl) ?_
          refine lv_iconst (v := 1) X.x X.b (dk DX8_widenReach_0 50 rfl) (by decide) ?_
          refine lv_iadd X.x X.b (dk DX8_widenReach_0 51 rfl) ?_
          obtain ⟨x33, e34, hF⟩ := bd hF
          refine mr_ci0 hH ⟨rfl, rfl⟩ (mr_runS (As := [.ref (q 15), .int (b1 + 1)]) (rest := []) X hH (c_X8_carryOn hq 20 x30 (b1 + 1) _ e34) kM_X8_73 kT_X8_carryOn kN_X8 kC_X8_carryOn hd_X8_carryOn ⟨Nat.le_of_ble_eq_true rfl, Nat.le_of_ble_eq_true rfl⟩ rfl hl.1 (Nat.le_of_ble_eq_true rfl) (dk DX8_widenReach_0 52 rfl) ⟨Nat.zero_le _, Nat.zero_le _⟩) (fun r h1 H locs hp hH => ?_)
          obtain ⟨hr1, hr2⟩ := hp; rw [hr1]; rw [hr2] at hH; clear hr1 hr2
          obtain ⟨v35, t36⟩ := x33
          try dsimp only at hF hH ⊢
          refine lv_if_eq (tgt := 103) X.x X.b (dk DX8_widenReach_0 53 rfl) (by decide) (fun c37 => ?_) (fun c37 => ?_)
          · replace hF := if_t hF c37
            refine lv_lload_n X.x X.b (dk DX8_widenReach_0 57 rfl) rfl (lv_at hl 3 rfl) ?_
            refine lv_aload_n X.x X.b (dk DX8_widenReach_0 58 rfl) rfl (lv_at hl 0 rfl) ?_
            refine lv_iload X.x X.b (dk DX8_widenReach_0 59 rfl) (lv_at hl 5 rfl) ?_
            obtain ⟨x38, e39, hF⟩ := bd hF
            refine mr_cl0 hH ⟨rfl, rfl⟩ (mr_runV (As := [.int b6]) (rest := [.long b3]) X hH (c_X8_classOf hq e39) ((oset_at hq (Nat.le_refl _) ohas_N).trans (congrArg some ocell_N)) OX8.1 kM_X8_115 kI_X8_classOf kS_X8_classOf kN_X8 kC_X8_classOf hd_X8_classOf ⟨Nat.le_of_ble_eq_true rfl, Nat.le_of_ble_eq_true rfl⟩ rfl hl.1 (Nat.le_of_ble_eq_true rfl) (dk DX8_widenReach_1 0 rfl) ⟨Nat.zero_le _, Nat.zero_le _⟩) (fun r h1 H locs hp hH => ?_)
            obtain ⟨hr1, hr2⟩ := hp; rw [hr1]; rw [hr2] at hH; clear hr1 hr2
            refine lv_ldc2 (v := (-1)) X.x X.b X.ow (X.ts _ kK_X8_121) (dk DX8_widenReach_1 1 rfl) ?_
            refine lv_lxor X.x X.b (dk DX8_widenReach_1 2 rfl) ?_
            refine lv_land X.x X.b (dk DX8_widenReach_1 3 rfl) ?_
            refine lv_topl (fun v41 e42 => ?_)
            replace hF := bnd_e hF e42
            refine lv_lstore_n (lv' := [(3, .long v41), (0, .ref (q 15)), (1, .int b1), (2, .int b2), (5, .int b5), (6, .int b6)]) X.x X.b (dk DX8_widenReach_1 4 rfl) rfl hl (by decide) rfl (fun ls hl => ?_)
            replace hl : lv_has ls 7 [(0, .ref (q 15)), (1, .int b1), (2, .int b2), (3, .long v41), (5, .int b5), (6, .int b6)] := lv_sub hl [1, 2, 3, 0, 4, 5] rfl
            obtain ⟨v43, e44⟩ : ∃ y : Int32, y = b6 + 1 := ⟨_, rfl⟩
            replace hF := bnd_e hF e44
            refine lv_iinc (v := v43) (lv' := [(6, .int v43), (0, .ref (q 15)), (1, .int b1), (2, .int b2), (3, .long v41), (5, .int b5)]) X.x X.b (dk DX8_widenReach_1 5 rfl) hl (k := 5) rfl (by rw [e44]; rfl) (by decide) rfl (fun ls hl => ?_)
            replace hl : lv_has ls 7 [(0, .ref (q 15)), (1, .int b1), (2, .int b2), (3, .long v41), (5, .int b5), (6, .int v43)] := lv_sub hl [1, 2, 3, 4, 5, 0] rfl
            refine lv_goto (tgt := 37) X.x X.b (dk DX8_widenReach_1 6 rfl) (by decide) ?_
            exact (lp_l hF hx) _ _ _ hH (lv_sub hl [0, 1, 2, 3, 4, 5] rfl) K0
          · replace hF := if_f hF c37
            refine lv_aload_n X.x X.b (dk DX8_widenReach_0 54 rfl) rfl (lv_at hl 0 rfl) ?_
            obtain ⟨x45, e46, hF⟩ := bd hF
            refine mr_cv0 hH ⟨rfl, rfl⟩ (mr_runV (As := []) (rest := []) X hH (c_X8_mergeClasses hq e46) ((oset_at hq (Nat.le_refl _) ohas_N).trans (congrArg some ocell_N)) OX8.1 kM_X8_118 kI_X8_mergeClasses kS_X8_mergeClasses kN_X8 kC_X8_mergeClasses hd_X8_mergeClasses ⟨Nat.le_of_ble_eq_true rfl, Nat.le_of_ble_eq_true rfl⟩ rfl hl.1 (Nat.le_of_ble_eq_true rfl) (dk DX8_widenReach_0 55 rfl) ⟨Nat.zero_le _, Nat.zero_le _⟩) (fun h1 H locs hp hH => ?_)
            rw [hp] at hH; clear hp
            refine lv_goto (tgt := 116) X.x X.b (dk DX8_widenReach_0 56 rfl) (by decide) ?_
            obtain ⟨v48, e49⟩ : ∃ y : Int32, y = b6 + 1 := ⟨_, rfl⟩
            replace hF := bnd_e hF e49
            refine lv_iinc (v := v48) (lv' := [(6, .int v48), (0, .ref (q 15)), (1, .int b1), (2, .int b2), (3, .long b3), (5, .int b5)]) X.x X.b (dk DX8_widenReach_1 5 rfl) hl (k := 5) rfl (by rw [e49]; rfl) (by decide) rfl (fun ls hl => ?_)
            replace hl : lv_has ls 7 [(0, .ref (q 15)), (1, .int b1), (2, .int b2), (3, .long b3), (5, .int b5), (6, .int v48)] := lv_sub hl [1, 2, 3, 4, 5, 0] rfl
            refine lv_goto (tgt := 37) X.x X.b (dk DX8_widenReach_1 6 rfl) (by decide) ?_
            exact (lp_l hF hx) _ _ _ hH (lv_sub hl [0, 1, 2, 3, 4, 5] rfl) K0
set_option maxHeartbeats 4000000 in
set_option maxRecDepth 100000 in
theorem c_X8_widenReach {l : Launch} {G : mG} {h : mM} {q : Nat → Nat} (hq : oinj LX8 q) {st : OS} {a0 : Int32} {x : Int32 × OS} (hF : f_X8_widenReach st a0 = some x) : cQ l G yX8_widenReach cX8_widenReach 7 (some FieldType.int) rm_X8_widenReach [.ref (q 15), .int a0] (oset LX8 G q st h) (mQi G (fun r h1 => r = x.1 ∧ h1 = oset LX8 G q x.2 h)) := by
  refine mp_of (by decide +kernel) (Nat.le_of_ble_eq_true rfl) ?_
  intro p e s m below meth c X hr hlk hH hname ls hl
  dsimp only [f_X8_widenReach] at hF
  replace hl : lv_has ls 7 [(0, .ref (q 15)), (1, .int a0)] := hl
  refine lv_aload_n X.x X.b (dk DX8_widenReach_0 0 rfl) rfl (lv_at hl 0 rfl) ?_
  refine lv_iload_n X.x X.b (dk DX8_widenReach_0 1 rfl) rfl (lv_at hl 1 rfl) ?_
  obtain ⟨x1, e2, hF⟩ := bd hF
  refine mr_ci0 hH ⟨rfl, rfl⟩ (mr_runV (As := [.int a0]) (rest := []) X hH (c_X8_undecided hq e2) ((oset_at hq (Nat.le_refl _) ohas_N).trans (congrArg some ocell_N)) OX8.1 kM_X8_100 kI_X8_undecided kS_X8_undecided kN_X8 kC_X8_undecided hd_X8_undecided ⟨Nat.le_of_ble_eq_true rfl, Nat.le_of_ble_eq_true rfl⟩ rfl hl.1 (Nat.le_of_ble_eq_true rfl) (dk DX8_widenReach_0 2 rfl) ⟨Nat.zero_le _, Nat.zero_le _⟩) (fun r h1 H locs hp hH => ?_)
  obtain ⟨hr1, hr2⟩ := hp; rw [hr1]; rw [hr2] at hH; clear hr1 hr2
  refine lv_istore_n (lv' := [(2, .int x1), (0, .ref (q 15)), (1, .int a0)]) X.x X.b (dk DX8_widenReach_0 3 rfl) rfl hl (by decide) rfl (fun ls hl => ?_)
  replace hl : lv_has ls 7 [(0, .ref (q 15)), (1, .int a0), (2, .int x1)] := lv_sub hl [1, 2, 0] rfl
  refine lv_iload_n X.x X.b (dk DX8_widenReach_0 4 rfl) rfl (lv_at hl 2 rfl) ?_
  refine lv_iconst (v := (-1)) X.x X.b (dk DX8_widenReach_0 5 rfl) (by decide) ?_
  refine lv_icmp_ne (tgt := 13) X.x X.b (dk DX8_widenReach_0 6 rfl) (by decide) (fun c4 => ?_) (fun c4 => ?_)
  · replace hF := if_f hF c4
    refine lv_aload_n X.x X.b (dk DX8_widenReach_0 9 rfl) rfl (lv_at hl 0 rfl) ?_
    refine og_getR (t := 1) OX8 X hq hH 7 (by decide) rfl kF_X8_30 (dk DX8_widenReach_0 10 rfl) ?_
    refine lv_iload_n X.x X.b (dk DX8_widenReach_0 11 rfl) rfl (lv_at hl 1 rfl) ?_
    refine lv_bipush (v := 64) X.x X.b (dk DX8_widenReach_0 12 rfl) (by decide) ?_
    refine lv_imul X.x X.b (dk DX8_widenReach_0 13 rfl) ?_
    refine lv_iload_n X.x X.b (dk DX8_widenReach_0 14 rfl) rfl (lv_at hl 2 rfl) ?_
    refine lv_iadd X.x X.b (dk DX8_widenReach_0 15 rfl) ?_
    obtain ⟨c5, hF⟩ := gd hF
    refine og_lald X hq hH 7 (by decide) rfl (inb_in c5) (dk DX8_widenReach_0 16 rfl) ?_
    refine lv_topl (fun v6 e7 => ?_)
    replace hF := bnd_e hF e7
    refine lv_lstore_n (lv' := [(3, .long v6), (0, .ref (q 15)), (1, .int a0), (2, .int x1)]) X.x X.b (dk DX8_widenReach_0 17 rfl) rfl hl (by decide) rfl (fun ls hl => ?_)
    replace hl : lv_has ls 7 [(0, .ref (q 15)), (1, .int a0), (2, .int x1), (3, .long v6)] := lv_sub hl [1, 2, 3, 0] rfl
    refine lv_lload_n X.x X.b (dk DX8_widenReach_0 18 rfl) rfl (lv_at hl 3 rfl) ?_
    obtain ⟨x8, e9, hF⟩ := bd hF
    refine mr_ci0 hH ⟨rfl, rfl⟩ (mr_runS (As := [.long v6]) (rest := []) X hH (c_X10_lowest e9) kM_X8_103 kT_X10_lowest kN_X10 kC_X10_lowest hd_X10_lowest ⟨Nat.le_of_ble_eq_true rfl, Nat.le_of_ble_eq_true rfl⟩ rfl hl.1 (Nat.le_of_ble_eq_true rfl) (dk DX8_widenReach_0 19 rfl) ⟨Nat.zero_le _, Nat.zero_le _⟩) (fun r h1 H locs hp hH => ?_)
    obtain ⟨hr1, hr2⟩ := hp; rw [hr1]; rw [hr2] at hH; clear hr1 hr2
    refine lv_istore (lv' := [(5, .int x8), (0, .ref (q 15)), (1, .int a0), (2, .int x1), (3, .long v6)]) X.x X.b (dk DX8_widenReach_0 20 rfl) hl (by decide) rfl (fun ls hl => ?_)
    replace hl : lv_has ls 7 [(0, .ref (q 15)), (1, .int a0), (2, .int x1), (3, .long v6), (5, .int x8)] := lv_sub hl [1, 2, 3, 4, 0] rfl
    refine lv_iload X.x X.b (dk DX8_widenReach_0 21 rfl) (lv_at hl 4 rfl) ?_
    refine lv_iconst (v := 1) X.x X.b (dk DX8_widenReach_0 22 rfl) (by decide) ?_
    refine lv_iadd X.x X.b (dk DX8_widenReach_0 23 rfl) ?_
    refine lv_topi (fun v11 e12 => ?_)
    replace hF := bnd_e hF e12
    refine lv_istore (lv' := [(6, .int v11), (0, .ref (q 15)), (1, .int a0), (2, .int x1), (3, .long v6), (5, .int x8)]) X.x X.b (dk DX8_widenReach_0 24 rfl) hl (by decide) rfl (fun ls hl => ?_)
    replace hl : lv_has ls 7 [(0, .ref (q 15)), (1, .int a0), (2, .int x1), (3, .long v6), (5, .int x8), (6, .int v11)] := lv_sub hl [1, 2, 3, 4, 5, 0] rfl
    obtain ⟨x50, e51, hF⟩ := bd hF
    replace hl : lv_has ls 7 [(0, .ref (q 15)), (1, .int a0), (2, .int x1), (3, .long v6), (5, .int x8), (6, .int v11)] := lv_sub hl [0, 1, 2, 3, 4, 5] rfl
    refine w_X8_widenReach_37 hq X a0 x1 x8 _ _ e51 _ _ _ hH hl (fun H locs ls hH hl => ?_)
    refine lv_aload_n X.x X.b (dk DX8_widenReach_1 7 rfl) rfl (lv_at hl 0 rfl) ?_
    refine og_getR (t := 1) OX8 X hq hH 13 (by decide) rfl kF_X8_48 (dk DX8_widenReach_1 8 rfl) ?_
    refine lv_iload_n X.x X.b (dk DX8_widenReach_1 9 rfl) rfl (lv_at hl 1 rfl) ?_
    refine lv_aload_n X.x X.b (dk DX8_widenReach_1 10 rfl) rfl (lv_at hl 0 rfl) ?_
    refine lv_iload X.x X.b (dk DX8_widenReach_1 11 rfl) (lv_at hl 2 rfl) ?_
    obtain ⟨x53, e54, hF⟩ := bd hF
    refine mr_cl0 hH ⟨rfl, rfl⟩ (mr_runV (As := [.int x8]) (rest := [.int a0, .ref (q 13)]) X hH (c_X8_classOf hq e54) ((oset_at hq (Nat.le_refl _) ohas_N).trans (congrArg some ocell_N)) OX8.1 kM_X8_115 kI_X8_classOf kS_X8_classOf kN_X8 kC_X8_classOf hd_X8_classOf ⟨Nat.le_of_ble_eq_true rfl, Nat.le_of_ble_eq_true rfl⟩ rfl hl.1 (Nat.le_of_ble_eq_true rfl) (dk DX8_widenReach_1 12 rfl) ⟨Nat.zero_le _, Nat.zero_le _⟩) (fun r h1 H locs hp hH => ?_)
    obtain ⟨hr1, hr2⟩ := hp; rw [hr1]; rw [hr2] at hH; clear hr1 hr2
    obtain ⟨c56, hF⟩ := gd hF
    refine og_last X hq hH 13 (by decide) rfl (inb_in c56) (dk DX8_widenReach_1 13 rfl) (fun H locs hH => ?_)
    obtain ⟨t57, e58⟩ : ∃ y, y = oB x50 13 (vp_updL (x50.2.2.2 13) (a0 : Int32).toNatClampNeg x53) := ⟨_, rfl⟩
    rw [← e58] at hH
    replace hF := bnd_e hF e58
    refine lv_aload_n X.x X.b (dk DX8_widenReach_1 14 rfl) rfl (lv_at hl 0 rfl) ?_
    refine og_getR (t := 1) OX8 X hq hH 13 (by decide) rfl kF_X8_48 (dk DX8_widenReach_1 15 rfl) ?_
    refine lv_iload_n X.x X.b (dk DX8_widenReach_1 16 rfl) rfl (lv_at hl 1 rfl) ?_
    refine og_lald X hq hH 13 (by decide) rfl (inb_in c56) (dk DX8_widenReach_1 17 rfl) ?_
    obtain ⟨x59, e60, hF⟩ := bd hF
    refine mr_ci0 hH ⟨rfl, rfl⟩ (mr_runS (As := [.long (t57.2.2.2 13 (a0 : Int32).toNatClampNeg)]) (rest := []) X hH (c_J13_bitCount_95d88 e60) kM_X8_123 kT_J13_bitCount_95d88 kN_J13 kC_J13_bitCount_95d88 hd_J13_bitCount_95d88 ⟨Nat.le_of_ble_eq_true rfl, Nat.le_of_ble_eq_true rfl⟩ rfl hl.1 (Nat.le_of_ble_eq_true rfl) (dk DX8_widenReach_1 18 rfl) ⟨Nat.zero_le _, Nat.zero_le _⟩) (fun r h1 H locs hp hH => ?_)
    obtain ⟨hr1, hr2⟩ := hp; rw [hr1]; rw [hr2] at hH; clear hr1 hr2
    cases sm hF
    exact mr_iret X hr hlk hH ⟨rfl, rfl⟩ (dk DX8_widenReach_1 19 rfl)
  · replace hF := if_t hF c4
    refine lv_iconst (v := 1) X.x X.b (dk DX8_widenReach_0 7 rfl) (by decide) ?_
    cases sm hF
    exact mr_iret X hr hlk hH ⟨rfl, rfl⟩ (dk DX8_widenReach_0 8 rfl)
-- X8_countTurnings
abbrev rm_X8_countTurnings : Room := { frames := 27, cells := 0, slots := 0, locals := 696 }
theorem hd_X8_countTurnings : mHd yX8_countTurnings 1 := ⟨by decide +kernel, by decide +kernel, by decide +kernel⟩
theorem DX8_countTurnings_0 : ∀ t ∈ ([(0, .aload_n 0, 1), (1, .aload_n 1, 1), (2, .aload_n 1, 1), (3, .invokevirtual 54, 3), (6, .aload_n 0, 1), (7, .invokevirtual 58, 3), (10, .istore_n 2, 1), (11, .iconst 0, 1), (12, .istore_n 3, 1), (13, .iload_n 3, 1), (14, .bipush 16, 2), (16, .if_icmp .ge 16, 3), (19, .aload_n 0, 1), (20, .getfield 45, 3), (23, .iload_n 3, 1), (24, .iload_n 3, 1), (25, .iastore, 1), (26, .iinc 3 1, 3), (29, .goto (-16), 3), (32, .lconst 1, 1), (33, .lstore_n 3, 1), (34, .iload_n 2, 1), (35, .iconst 1, 1), (36, .isub, 1), (37, .istore 5, 2), (39, .iload 5, 2), (41, .ifCond .lt 26, 3), (44, .iload 5, 2), (46, .bipush 16, 2), (48, .if_icmp .ge 19, 3), (51, .lload_n 3, 1), (52, .aload_n 0, 1), (53, .iload 5, 2), (55, .invokevirtual 62, 3), (58, .i2l, 1), (59, .lmul, 1), (60, .lstore_n 3, 1), (61, .iinc 5 (-1), 3), (64, .goto (-25), 3), (67, .lload_n 3, 1), (68, .lreturn, 1)] : List (Nat × Instr × Nat)), decode cX8_countTurnings t.1 = .ok (t.2.1, t.2.2) := by decide +kernel
noncomputable def f_X8_countTurnings_13 (s_o1 : OS) (b2 : Int32) : (OS × Int32) → Option ((OS × Int32) ⊕ (OS)) := fun z => match z with | (s_t, b3) => (if 16 ≤ b3 then some (.inr s_t) else if inb b3 16 = true then bnd (oA s_t 12 (upd (s_t.2.2.1 12) (b3 : Int32).toNatClampNeg b3)) (fun t10 => bnd (b3 + 1 : Int32) (fun v12 => some (.inl ((t10, v12))))) else none)
noncomputable def f_X8_countTurnings_39 (s_o1 : OS) : (OS × Int64 × Int32) → Option ((OS × Int64 × Int32) ⊕ (OS × Int64)) := fun z => match z with | (s_t, b3, b5) => (if b5 < 0 then some (.inr ((s_t, b3))) else (if 16 ≤ b5 then some (.inr ((s_t, b3))) else (f_X8_widenReach s_t b5).bind (fun x21 => match x21 with | (v23, t24) => bnd (b3 * ((v23 : Int32).toInt64) : Int64) (fun v25 => bnd (b5 + (-1) : Int32) (fun v27 => some (.inl ((t24, v25, v27))))))))
noncomputable def f_X8_countTurnings (st : OS) (st1 : OS) : Option (Int64 × OS) := (f_X8_load_same st st1).bind (fun x1 => (f_X8_tellAllApart x1).bind (fun x4 => match x4 with | (v6, t7) => (lpv (f_X8_countTurnings_13 st1 v6) ((t7, 0))).bind (fun x14 => bnd (v6 - 1 : Int32) (fun v17 => (lpv (f_X8_countTurnings_39 st1) ((x14, 1, v17))).bind (fun x29 => match x29 with | (t31, v32) => some ((v32, t31)))))))
set_option maxHeartbeats 4000000 in
set_option maxRecDepth 100000 in
theorem w_X8_countTurnings_13 {p : Program} {l : Launch} {e : Env} {s : State} {m : MethodId} {args : Array Value} {below : List Frame} {meth : Method} {c : Code} {Q : State → Prop} {G : mG} {h : mM} {q : Nat → Nat} {q1 : Nat → Nat} (hq : oinj LX8 q) (hq1 : oinj LX10 q1) (ha : oap [(LX8, q), (LX10, q1)]) (X : mX G p m c cX8_countTurnings 6 s args RX8) (s_o1 : OS) (b2 : Int32) : ∀ (z : OS × Int32) (r : OS), lpv (f_X8_countTurnings_13 s_o1 b2) z = some r → ∀ (H : Heap) (locs : List Loc) (ls : Array Slot), mH G (oset LX8 G q z.1 (oset LX10 G q1 s_o1 h)) s.heap H locs → lv_has ls 6 [(0, .ref (q 15)), (2, .int b2), (3, .int z.2)] → (∀ (H : Heap) (locs : List Loc) (ls : Array Slot), mH G (oset LX8 G q r (oset LX10 G q1 s_o1 h)) s.heap H locs → lv_has ls 6 [(0, .ref (q 15)), (2, .int b2)] → W p l e rm_X8_countTurnings s m args below meth c H locs 0 0 Q (F0 m 32 ls [])) → W p l e rm_X8_countTurnings s m args below meth c H locs 0 0 Q (F0 m 13 ls []) := by
  refine lpv_rec ?_
  intro z r x hF hx H locs ls hH hl K0
  obtain ⟨s_t, b3⟩ := z
  dsimp only [f_X8_countTurnings_13] at hF
  try dsimp only at hH hl
  refine lv_iload_n X.x X.b (dk DX8_countTurnings_0 9 rfl) rfl (lv_at hl 2 rfl) ?_
  refine lv_bipush (v := 16) X.x X.b (dk DX8_countTurnings_0 10 rfl) (by decide) ?_
  refine lv_icmp_ge (tgt := 32) X.x X.b (dk DX8_countTurnings_0 11 rfl) (by decide) (fun c8 => ?_) (fun c8 => ?_)
  · replace hF := if_t hF c8
    have hr9 := lp_r hF hx
    subst hr9
    exact K0 _ _ _ hH (lv_sub hl [0, 1] rfl)
  · replace hF := if_f hF c8
    refine lv_aload_n X.x X.b (dk DX8_countTurnings_0 12 rfl) rfl (lv_at hl 0 rfl) ?_
    refine og_getR (t := 0) OX8 X hq hH 12 (by decide) rfl kF_X8_45 (dk DX8_countTurnings_0 13 rfl) ?_
    refine lv_iload_n X.x X.b (dk DX8_countTurnings_0 14 rfl) rfl (lv_at hl 2 rfl) ?_
    refine lv_iload_n X.x X.b (dk DX8_countTurnings_0 15 rfl) rfl (lv_at hl 2 rfl) ?_
    obtain ⟨c9, hF⟩ := gd hF
    refine og_iast X hq hH 12 (by decide) rfl (inb_in c9) (dk DX8_countTurnings_0 16 rfl) (fun H locs hH => ?_)
    obtain ⟨t10, e11⟩ : ∃ y, y = oA s_t 12 (upd (s_t.2.2.1 12) (b3 : Int32).toNatClampNeg b3) := ⟨_, rfl⟩
    rw [← e11] at hH
    replace hF := bnd_e hF e11
    obtain ⟨v12, e13⟩ : ∃ y : Int32, y = b3 + 1 := ⟨_, rfl⟩
    replace hF := bnd_e hF e13
    refine lv_iinc (v := v12) (lv' := [(3, .int v12), (0, .ref (q 15)), (2, .int b2)]) X.x X.b (dk DX8_countTurnings_0 17 rfl) hl (k := 2) rfl (by rw [e13]; rfl) (by decide) rfl (fun ls hl => ?_)
    replace hl : lv_has ls 6 [(0, .ref (q 15)), (2, .int b2), (3, .int v12)] := lv_sub hl [1, 2, 0] rfl
    refine lv_goto (tgt := 13) X.x X.b (dk DX8_countTurnings_0 18 rfl) (by decide) ?_
    exact (lp_l hF hx) _ _ _ hH (lv_sub hl [0, 1, 2] rfl) K0
set_option maxHeartbeats 4000000 in
set_option maxRecDepth 100000 in
theorem w_X8_countTurnings_39 {p : Program} {l : Launch} {e : Env} {s : State} {m : MethodId} {args : Array Value} {below : List Frame} {meth : Method} {c : Code} {Q : State → Prop} {G : mG} {h : mM} {q : Nat → Nat} {q1 : Nat → Nat} (hq : oinj LX8 q) (hq1 : oinj LX10 q1) (ha : oap [(LX8, q), (LX10, q1)]) (X : mX G p m c cX8_countTurnings 6 s args RX8) (s_o1 : OS) : ∀ (z : OS × Int64 × Int32) (r : OS × Int64), lpv (f_X8_countTurnings_39 s_o1) z = some r → ∀ (H : Heap) (locs : List Loc) (ls : Array Slot), mH G (oset LX8 G q z.1 (oset LX10 G q1 s_o1 h)) s.heap H locs → lv_has ls 6 [(0, .ref (q 15)), (3, .long z.2.1), (5, .int z.2.2)] → (∀ (H : Heap) (locs : List Loc) (ls : Array Slot), mH G (oset LX8 G q r.1 (oset LX10 G q1 s_o1 h)) s.heap H locs → lv_has ls 6 [(3, .long r.2)] → W p l e rm_X8_countTurnings s m args below meth c H locs 0 0 Q (F0 m 67 ls [])) → W p l e rm_X8_countTurnings s m args below meth c H locs 0 0 Q (F0 m 39 ls []) := by
  refine lpv_rec ?_
  intro z r x hF hx H locs ls hH hl K0
  obtain ⟨s_t, b3, b5⟩ := z
  dsimp only [f_X8_countTurnings_39] at hF
  try dsimp only at hH hl
  refine lv_iload X.x X.b (dk DX8_countTurnings_0 25 rfl) (lv_at hl 2 rfl) ?_
  refine lv_if_lt (tgt := 67) X.x X.b (dk DX8_countTurnings_0 26 rfl) (by decide) (fun c19 => ?_) (fun c19 => ?_)
  · replace hF := if_t hF c19
    have hr9 := lp_r hF hx
    subst hr9
    exact K0 _ _ _ hH (lv_sub hl [1] rfl)
  · replace hF := if_f hF c19
    refine lv_iload X.x X.b (dk DX8_countTurnings_0 27 rfl) (lv_at hl 2 rfl) ?_
    refine lv_bipush (v := 16) X.x X.b (dk DX8_countTurnings_0 28 rfl) (by decide) ?_
    refine lv_icmp_ge (tgt := 67) X.x X.b (dk DX8_countTurnings_0 29 rfl) (by decide) (fun c20 => ?_) (fun c20 => ?_)
    · replace hF := if_t hF c20
      have hr9 := lp_r hF hx
      subst hr9
      exact K0 _ _ _ hH (lv_sub hl [1] rfl)
    · replace hF := if_f hF c20
      refine lv_lload_n X.x X.b (dk DX8_countTurnings_0 30 rfl) rfl (lv_at hl 1 rfl) ?_
      refine lv_aload_n X.x X.b (dk DX8_countTurnings_0 31 rfl) rfl (lv_at hl 0 rfl) ?_
      refine lv_iload X.x X.b (dk DX8_countTurnings_0 32 rfl) (lv_at hl 2 rfl) ?_
      obtain ⟨x21, e22, hF⟩ := bd hF
      refine mr_ci0 hH ⟨rfl, rfl⟩ (mr_runV (As := [.int b5]) (rest := [.long b3]) X hH (c_X8_widenReach hq e22) ((oset_at hq (Nat.le_refl _) ohas_N).trans (congrArg some ocell_N)) OX8.1 kM_X8_62 kI_X8_widenReach kS_X8_widenReach kN_X8 kC_X8_widenReach hd_X8_widenReach ⟨Nat.le_of_ble_eq_true rfl, Nat.le_of_ble_eq_true rfl⟩ rfl hl.1 (Nat.le_of_ble_eq_true rfl) (dk DX8_countTurnings_0 33 rfl) ⟨Nat.zero_le _, Nat.zero_le _⟩) (fun r h1 H locs hp hH => ?_)
      obtain ⟨hr1, hr2⟩ := hp; rw [hr1]; rw [hr2] at hH; clear hr1 hr2
      obtain ⟨v23, t24⟩ := x21
      try dsimp only at hF hH ⊢
      refine lv_i2l X.x X.b (dk DX8_countTurnings_0 34 rfl) rfl ?_
      refine lv_lmul X.x X.b (dk DX8_countTurnings_0 35 rfl) ?_
      refine lv_topl (fun v25 e26 => ?_)
      replace hF := bnd_e hF e26
      refine lv_lstore_n (lv' := [(3, .long v25), (0, .ref (q 15)), (5, .int b5)]) X.x X.b (dk DX8_countTurnings_0 36 rfl) rfl hl (by decide) rfl (fun ls hl => ?_)
      replace hl : lv_has ls 6 [(0, .ref (q 15)), (3, .long v25), (5, .int b5)] := lv_sub hl [1, 0, 2] rfl
      obtain ⟨v27, e28⟩ : ∃ y : Int32, y = b5 + (-1) := ⟨_, rfl⟩
      replace hF := bnd_e hF e28
      refine lv_iinc (v := v27) (lv' := [(5, .int v27), (0, .ref (q 15)), (3, .long v25)]) X.x X.b (dk DX8_countTurnings_0 37 rfl) hl (k := 2) rfl (by rw [e28]; rfl) (by decide) rfl (fun ls hl => ?_)
      replace hl : lv_has ls 6 [(0, .ref (q 15)), (3, .long v25), (5, .int v27)] := lv_sub hl [1, 2, 0] rfl
      refine lv_goto (tgt := 39) X.x X.b (dk DX8_countTurnings_0 38 rfl) (by decide) ?_
      exact (lp_l hF hx) _ _ _ hH (lv_sub hl [0, 1, 2] rfl) K0
set_option maxHeartbeats 4000000 in
set_option maxRecDepth 100000 in
theorem c_X8_countTurnings {l : Launch} {G : mG} {h : mM} {q : Nat → Nat} {q1 : Nat → Nat} (hq : oinj LX8 q) (hq1 : oinj LX10 q1) (ha : oap [(LX8, q), (LX10, q1)]) {st : OS} {st1 : OS} {x : Int64 × OS} (hF : f_X8_countTurnings st st1 = some x) : cQ l G yX8_countTurnings cX8_countTurnings 6 (some FieldType.long) rm_X8_countTurnings [.ref (q 15), .ref (q1 5)] (oset LX8 G q st (oset LX10 G q1 st1 h)) (mQl G (fun r h1 => r = x.1 ∧ h1 = oset LX8 G q x.2 (oset LX10 G q1 st1 h))) := by
  refine mp_of (by decide +kernel) (Nat.le_of_ble_eq_true rfl) ?_
  intro p e s m below meth c X hr hlk hH hname ls hl
  dsimp only [f_X8_countTurnings] at hF
  replace hl : lv_has ls 6 [(0, .ref (q 15)), (1, .ref (q1 5))] := hl
  refine lv_aload_n X.x X.b (dk DX8_countTurnings_0 0 rfl) rfl (lv_at hl 0 rfl) ?_
  refine lv_aload_n X.x X.b (dk DX8_countTurnings_0 1 rfl) rfl (lv_at hl 1 rfl) ?_
  refine lv_aload_n X.x X.b (dk DX8_countTurnings_0 2 rfl) rfl (lv_at hl 1 rfl) ?_
  obtain ⟨x1, e2, hF⟩ := bd hF
  refine mr_cv0 hH ⟨rfl, rfl⟩ (mr_runV (As := [.ref (q1 5), .ref (q1 5)]) (rest := []) X hH (c_X8_load_same hq hq1 ha e2) ((oset_at hq (Nat.le_refl _) ohas_N).trans (congrArg some ocell_N)) OX8.1 kM_X8_54 kI_X8_load kS_X8_load kN_X8 kC_X8_load hd_X8_load ⟨Nat.le_of_ble_eq_true rfl, Nat.le_of_ble_eq_true rfl⟩ rfl hl.1 (Nat.le_of_ble_eq_true rfl) (dk DX8_countTurnings_0 3 rfl) ⟨Nat.zero_le _, Nat.zero_le _⟩) (fun h1 H locs hp hH => ?_)
  rw [hp] at hH; clear hp
  refine lv_aload_n X.x X.b (dk DX8_countTurnings_0 4 rfl) rfl (lv_at hl 0 rfl) ?_
  obtain ⟨x4, e5, hF⟩ := bd hF
  refine mr_ci0 hH ⟨rfl, rfl⟩ (mr_runV (As := []) (rest := []) X hH (c_X8_tellAllApart hq e5) ((oset_at hq (Nat.le_refl _) ohas_N).trans (congrArg some ocell_N)) OX8.1 kM_X8_58 kI_X8_tellAllApart kS_X8_tellAllApart kN_X8 kC_X8_tellAllApart hd_X8_tellAllApart ⟨Nat.le_of_ble_eq_true rfl, Nat.le_of_ble_eq_true rfl⟩ rfl hl.1 (Nat.le_of_ble_eq_true rfl) (dk DX8_countTurnings_0 5 rfl) ⟨Nat.zero_le _, Nat.zero_le _⟩) (fun r h1 H locs hp hH => ?_)
  obtain ⟨hr1, hr2⟩ := hp; rw [hr1]; rw [hr2] at hH; clear hr1 hr2
  obtain ⟨v6, t7⟩ := x4
  try dsimp only at hF hH ⊢
  refine lv_istore_n (lv' := [(2, .int v6), (0, .ref (q 15)), (1, .ref (q1 5))]) X.x X.b (dk DX8_countTurnings_0 6 rfl) rfl hl (by decide) rfl (fun ls hl => ?_)
  replace hl : lv_has ls 6 [(0, .ref (q 15)), (2, .int v6)] := lv_sub hl [1, 0] rfl
  refine lv_iconst (v := 0) X.x X.b (dk DX8_countTurnings_0 7 rfl) (by decide) ?_
  refine lv_istore_n (lv' := [(3, .int 0), (0, .ref (q 15)), (2, .int v6)]) X.x X.b (dk DX8_countTurnings_0 8 rfl) rfl hl (by decide) rfl (fun ls hl => ?_)
  replace hl : lv_has ls 6 [(0, .ref (q 15)), (2, .int v6), (3, .int 0)] := lv_sub hl [1, 2, 0] rfl
  obtain ⟨x14, e15, hF⟩ := bd hF
  replace hl : lv_has ls 6 [(0, .ref (q 15)), (2, .int v6), (3, .int 0)] := lv_sub hl [0, 1, 2] rfl
  refine w_X8_countTurnings_13 hq hq1 ha X st1 v6 _ _ e15 _ _ _ hH hl (fun H locs ls hH hl => ?_)
  refine lv_lconst (v := 1) X.x X.b (dk DX8_countTurnings_0 19 rfl) (by decide) ?_
  refine lv_lstore_n (lv' := [(3, .long 1), (0, .ref (q 15)), (2, .int v6)]) X.x X.b (dk DX8_countTurnings_0 20 rfl) rfl hl (by decide) rfl (fun ls hl => ?_)
  replace hl : lv_has ls 6 [(0, .ref (q 15)), (2, .int v6), (3, .long 1)] := lv_sub hl [1, 2, 0] rfl
  refine lv_iload_n X.x X.b (dk DX8_countTurnings_0 21 rfl) rfl (lv_at hl 1 rfl) ?_
  refine lv_iconst (v := 1) X.x X.b (dk DX8_countTurnings_0 22 rfl) (by decide) ?_
  refine lv_isub X.x X.b (dk DX8_countTurnings_0 23 rfl) ?_
  refine lv_topi (fun v17 e18 => ?_)
  replace hF := bnd_e hF e18
  refine lv_istore (lv' := [(5, .int v17), (0, .ref (q 15)), (2, .int v6), (3, .long 1)]) X.x X.b (dk DX8_countTurnings_0 24 rfl) hl (by decide) rfl (fun ls hl => ?_)
  replace hl : lv_has ls 6 [(0, .ref (q 15)), (3, .long 1), (5, .int v17)] := lv_sub hl [1, 3, 0] rfl
  obtain ⟨x29, e30, hF⟩ := bd hF
  replace hl : lv_has ls 6 [(0, .ref (q 15)), (3, .long 1), (5, .int v17)] := lv_sub hl [0, 1, 2] rfl
  obtain ⟨t31, v32⟩ := x29
  try dsimp only at hF
  refine w_X8_countTurnings_39 hq hq1 ha X st1 _ _ e30 _ _ _ hH hl (fun H locs ls hH hl => ?_)
  try dsimp only at hH hl
  refine lv_lload_n X.x X.b (dk DX8_countTurnings_0 39 rfl) rfl (lv_at hl 0 rfl) ?_
  cases sm hF
  exact mr_lret X hr hlk hH ⟨rfl, rfl⟩ (dk DX8_countTurnings_0 40 rfl)
-- X8_areAlike
abbrev rm_X8_areAlike : Room := { frames := 26, cells := 0, slots := 0, locals := 670 }
theorem hd_X8_areAlike : mHd yX8_areAlike 2 := ⟨by decide +kernel, by decide +kernel, by decide +kernel⟩
theorem DX8_areAlike_0 : ∀ t ∈ ([(0, .aload_n 1, 1), (1, .getfield 66, 3), (4, .aload_n 2, 1), (5, .getfield 66, 3), (8, .if_icmp .ne 14, 3), (11, .aload_n 1, 1), (12, .getfield 70, 3), (15, .aload_n 2, 1), (16, .getfield 70, 3), (19, .if_icmp .eq 5, 3), (22, .iconst 0, 1), (23, .ireturn, 1), (24, .aload_n 0, 1), (25, .aload_n 1, 1), (26, .aload_n 2, 1), (27, .invokevirtual 54, 3), (30, .aload_n 0, 1), (31, .iconst 0, 1), (32, .invokestatic 73, 3), (35, .ireturn, 1)] : List (Nat × Instr × Nat)), decode cX8_areAlike t.1 = .ok (t.2.1, t.2.2) := by decide +kernel
noncomputable def f_X8_areAlike (st : OS) (st1 : OS) (st2 : OS) : Option (Int32 × OS) := (if (st1.1 0) = (st2.1 0) then (if (st1.1 1) = (st2.1 1) then (f_X8_load st st1 st2).bind (fun x3 => (f_X8_carryOn 20 x3 0).bind (fun x6 => match x6 with | (v8, t9) => if isb v8 = true then some ((v8, t9)) else none)) else some ((0, st))) else some ((0, st)))
set_option maxHeartbeats 4000000 in
set_option maxRecDepth 100000 in
theorem c_X8_areAlike {l : Launch} {G : mG} {h : mM} {q : Nat → Nat} {q1 : Nat → Nat} {q2 : Nat → Nat} (hq : oinj LX8 q) (hq1 : oinj LX10 q1) (hq2 : oinj LX10 q2) (ha : oap [(LX8, q), (LX10, q1), (LX10, q2)]) {st : OS} {st1 : OS} {st2 : OS} {x : Int32 × OS} (hF : f_X8_areAlike st st1 st2 = some x) : cQ l G yX8_areAlike cX8_areAlike 3 (some FieldType.boolean) rm_X8_areAlike [.ref (q 15), .ref (q1 5), .ref (q2 5)] (oset LX8 G q st (oset LX10 G q1 st1 (oset LX10 G q2 st2 h))) (mQi G (fun r h1 => r = x.1 ∧ h1 = oset LX8 G q x.2 (oset LX10 G q1 st1 (oset LX10 G q2 st2 h)))) := by
  refine mp_of (by decide +kernel) (Nat.le_of_ble_eq_true rfl) ?_
  intro p e s m below meth c X hr hlk hH hname ls hl
  dsimp only [f_X8_areAlike] at hF
  replace hl : lv_has ls 3 [(0, .ref (q 15)), (1, .ref (q1 5)), (2, .ref (q2 5))] := hl
  refine lv_aload_n X.x X.b (dk DX8_areAlike_0 0 rfl) rfl (lv_at hl 1 rfl) ?_
  refine og_getIN OX10 X hq1 (mH_perm (l1 := [(LX8, q, st), (LX10, q1, st1), (LX10, q2, st2)]) (l2 := [(LX10, q1, st1), (LX8, q, st), (LX10, q2, st2)]) ha [1, 0, 2] [1, 0, 2] rfl rfl rfl hH) 0 (by decide) rfl kFN_X8_66 (dk DX8_areAlike_0 1 rfl) ?_
  refine lv_aload_n X.x X.b (dk DX8_areAlike_0 2 rfl) rfl (lv_at hl 2 rfl) ?_
  refine og_getIN OX10 X hq2 (mH_perm (l1 := [(LX8, q, st), (LX10, q1, st1), (LX10, q2, st2)]) (l2 := [(LX10, q2, st2), (LX8, q, st), (LX10, q1, st1)]) ha [2, 0, 1] [1, 2, 0] rfl rfl rfl hH) 0 (by decide) rfl kFN_X8_66 (dk DX8_areAlike_0 3 rfl) ?_
  refine lv_icmp_ne (tgt := 22) X.x X.b (dk DX8_areAlike_0 4 rfl) (by decide) (fun c1 => ?_) (fun c1 => ?_)
  · replace hF := if_f hF c1
    refine lv_iconst (v := 0) X.x X.b (dk DX8_areAlike_0 10 rfl) (by decide) ?_
    cases sm hF
    exact mr_zret X hr hlk hH rfl ⟨rfl, rfl⟩ (dk DX8_areAlike_0 11 rfl)
  · replace hF := if_t hF c1
    refine lv_aload_n X.x X.b (dk DX8_areAlike_0 5 rfl) rfl (lv_at hl 1 rfl) ?_
    refine og_getIN OX10 X hq1 (mH_perm (l1 := [(LX8, q, st), (LX10, q1, st1), (LX10, q2, st2)]) (l2 := [(LX10, q1, st1), (LX8, q, st), (LX10, q2, st2)]) ha [1, 0, 2] [1, 0, 2] rfl rfl rfl hH) 1 (by decide) rfl kFN_X8_70 (dk DX8_areAlike_0 6 rfl) ?_
    refine lv_aload_n X.x X.b (dk DX8_areAlike_0 7 rfl) rfl (lv_at hl 2 rfl) ?_
    refine og_getIN OX10 X hq2 (mH_perm (l1 := [(LX8, q, st), (LX10, q1, st1), (LX10, q2, st2)]) (l2 := [(LX10, q2, st2), (LX8, q, st), (LX10, q1, st1)]) ha [2, 0, 1] [1, 2, 0] rfl rfl rfl hH) 1 (by decide) rfl kFN_X8_70 (dk DX8_areAlike_0 8 rfl) ?_
    refine lv_icmp_eq (tgt := 24) X.x X.b (dk DX8_areAlike_0 9 rfl) (by decide) (fun c2 => ?_) (fun c2 => ?_)
    · replace hF := if_t hF c2
      refine lv_aload_n X.x X.b (dk DX8_areAlike_0 12 rfl) rfl (lv_at hl 0 rfl) ?_
      refine lv_aload_n X.x X.b (dk DX8_areAlike_0 13 rfl) rfl (lv_at hl 1 rfl) ?_
      refine lv_aload_n X.x X.b (dk DX8_areAlike_0 14 rfl) rfl (lv_at hl 2 rfl) ?_
      obtain ⟨x3, e4, hF⟩ := bd hF
      refine mr_cv0 hH ⟨rfl, rfl⟩ (mr_runV (As := [.ref (q1 5), .ref (q2 5)]) (rest := []) X hH (c_X8_load hq hq1 hq2 ha e4) ((oset_at hq (Nat.le_refl _) ohas_N).trans (congrArg some ocell_N)) OX8.1 kM_X8_54 kI_X8_load kS_X8_load kN_X8 kC_X8_load hd_X8_load ⟨Nat.le_of_ble_eq_true rfl, Nat.le_of_ble_eq_true rfl⟩ rfl hl.1 (Nat.le_of_ble_eq_true rfl) (dk DX8_areAlike_0 15 rfl) ⟨Nat.zero_le _, Nat.zero_le _⟩) (fun h1 H locs hp hH => ?_)
      rw [hp] at hH; clear hp
      refine lv_aload_n X.x X.b (dk DX8_areAlike_0 16 rfl) rfl (lv_at hl 0 rfl) ?_
      refine lv_iconst (v := 0) X.x X.b (dk DX8_areAlike_0 17 rfl) (by decide) ?_
      obtain ⟨x6, e7, hF⟩ := bd hF
      refine mr_ci0 hH ⟨rfl, rfl⟩ (mr_runS (As := [.ref (q 15), .int 0]) (rest := []) X hH (c_X8_carryOn hq 20 x3 0 _ e7) kM_X8_73 kT_X8_carryOn kN_X8 kC_X8_carryOn hd_X8_carryOn ⟨Nat.le_of_ble_eq_true rfl, Nat.le_of_ble_eq_true rfl⟩ rfl hl.1 (Nat.le_of_ble_eq_true rfl) (dk DX8_areAlike_0 18 rfl) ⟨Nat.zero_le _, Nat.zero_le _⟩) (fun r h1 H locs hp hH => ?_)
      obtain ⟨hr1, hr2⟩ := hp; rw [hr1]; rw [hr2] at hH; clear hr1 hr2
      obtain ⟨v8, t9⟩ := x6
      try dsimp only at hF hH ⊢
      obtain ⟨c10, hF⟩ := gd hF
      cases sm hF
      exact mr_zret X hr hlk hH (isb_nar c10) ⟨rfl, rfl⟩ (dk DX8_areAlike_0 19 rfl)
    · replace hF := if_f hF c2
      refine lv_iconst (v := 0) X.x X.b (dk DX8_areAlike_0 10 rfl) (by decide) ?_
      cases sm hF
      exact mr_zret X hr hlk hH rfl ⟨rfl, rfl⟩ (dk DX8_areAlike_0 11 rfl)
-- X9_walkOn
abbrev rm_X9_walkOn : Room := { frames := 2, cells := 0, slots := 0, locals := 43 }
theorem hd_X9_walkOn : mHd yX9_walkOn 1 := ⟨by decide +kernel, by decide +kernel, by decide +kernel⟩
theorem DX9_walkOn_0 : ∀ t ∈ ([(0, .iconst 0, 1), (1, .istore_n 2, 1), (2, .iload_n 2, 1), (3, .aload_n 1, 1), (4, .getfield 33, 3), (7, .if_icmp .ge 89, 3), (10, .iload_n 2, 1), (11, .bipush 64, 2), (13, .if_icmp .ge 83, 3), (16, .aload_n 1, 1), (17, .iload_n 2, 1), (18, .invokevirtual 53, 3), (21, .lstore_n 3, 1), (22, .lconst 0, 1), (23, .lstore 5, 2), (25, .iconst 0, 1), (26, .istore 7, 2), (28, .iload 7, 2), (30, .bipush 64, 2), (32, .if_icmp .ge 50, 3), (35, .lload_n 3, 1), (36, .lconst 0, 1), (37, .lcmp, 1), (38, .ifCond .eq 44, 3), (41, .lload_n 3, 1), (42, .invokestatic 57, 3), (45, .istore 8, 2), (47, .lload 5, 2), (49, .iload 8, 2), (51, .bipush 64, 2), (53, .if_icmp .ge 13, 3), (56, .aload_n 0, 1), (57, .getfield 11, 3), (60, .iload 8, 2), (62, .laload, 1), (63, .goto 4, 3), (66, .lconst 0, 1), (67, .ladd, 1), (68, .lstore 5, 2), (70, .lload_n 3, 1), (71, .lload_n 3, 1), (72, .lconst 1, 1), (73, .lsub, 1), (74, .land, 1), (75, .lstore_n 3, 1), (76, .iinc 7 1, 3), (79, .goto (-51), 3), (82, .aload_n 0, 1), (83, .getfield 20, 3), (86, .iload_n 2, 1), (87, .lload 5, 2), (89, .lastore, 1), (90, .iinc 2 1, 3), (93, .goto (-91), 3), (96, .aload_n 0, 1), (97, .getfield 20, 3), (100, .iconst 0, 1), (101, .aload_n 0, 1), (102, .getfield 11, 3), (105, .iconst 0, 1)] : List (Nat × Instr × Nat)), decode cX9_walkOn t.1 = .ok (t.2.1, t.2.2) := by decide +kernel
theorem DX9_walkOn_1 : ∀ t ∈ ([(106, .aload_n 1, 1), (107, .getfield 33, 3), (110, .bipush 64, 2), (112, .invokestatic 63, 3), (115, .invokestatic 47, 3), (118, .return_, 1)] : List (Nat × Instr × Nat)), decode cX9_walkOn t.1 = .ok (t.2.1, t.2.2) := by decide +kernel
noncomputable def f_X9_walkOn_28 (s_t : OS) (s_o1 : OS) (b2 : Int32) : (Int64 × Int64 × Int32) → Option ((Int64 × Int64 × Int32) ⊕ (Int64)) := fun z => match z with | (b3, b5, b7) => (if 64 ≤ b7 then some (.inr b5) else (if (lg_cmp b3 0) = 0 then some (.inr b5) else (f_J13_numberOfTrailingZeros_95d88 b3).bind (fun x8 => (if 64 ≤ x8 then bnd (b5 + 0 : Int64) (fun v12 => bnd (b3 &&& (b3 - 1) : Int64) (fun v14 => bnd (b7 + 1 : Int32) (fun v16 => some (.inl ((v14, v12, v16)))))) else if inb x8 64 = true then bnd (b5 + (s_t.2.2.2 0 (x8 : Int32).toNatClampNeg) : Int64) (fun v19 => bnd (b3 &&& (b3 - 1) : Int64) (fun v21 => bnd (b7 + 1 : Int32) (fun v23 => some (.inl ((v21, v19, v23)))))) else none))))
noncomputable def f_X9_walkOn_2 (s_o1 : OS) : (OS × Int32) → Option ((OS × Int32) ⊕ (OS)) := fun z => match z with | (s_t, b2) => (if (s_o1.1 0) ≤ b2 then some (.inr s_t) else (if 64 ≤ b2 then some (.inr s_t) else (f_X10_nearAt s_o1 b2).bind (fun x3 => (lpv (f_X9_walkOn_28 s_t s_o1 b2) ((x3, 0, 0))).bind (fun x25 => if inb b2 64 = true then bnd (oB s_t 2 (vp_updL (s_t.2.2.2 2) (b2 : Int32).toNatClampNeg x25)) (fun t29 => bnd (b2 + 1 : Int32) (fun v31 => some (.inl ((t29, v31))))) else none))))
noncomputable def f_X9_walkOn (st : OS) (st1 : OS) : Option (OS) := (lpv (f_X9_walkOn_2 st1) ((st, 0))).bind (fun x33 => (f_J9_min_7cf53 (st1.1 0) 64).bind (fun x36 => if okc 0 0 x36 64 64 = true then bnd (oB x33 0 (va_cpy (x33.2.2.2 2) (x33.2.2.2 0) (0 : Int32).toNatClampNeg (0 : Int32).toNatClampNeg (x36 : Int32).toNatClampNeg)) (fun t40 => some t40) else none))
set_option maxHeartbeats 4000000 in
set_option maxRecDepth 100000 in
theorem w_X9_walkOn_28 {p : Program} {l : Launch} {e : Env} {s : State} {m : MethodId} {args : Array Value} {below : List Frame} {meth : Method} {c : Code} {Q : State → Prop} {G : mG} {h : mM} {q : Nat → Nat} {q1 : Nat → Nat} (hq : oinj LX9 q) (hq1 : oinj LX10 q1) (ha : oap [(LX9, q), (LX10, q1)]) (X : mX G p m c cX9_walkOn 9 s args RX9) (s_t : OS) (s_o1 : OS) (b2 : Int32) : ∀ (z : Int64 × Int64 × Int32) (r : Int64), lpv (f_X9_walkOn_28 s_t s_o1 b2) z = some r → ∀ (H : Heap) (locs : List Loc) (ls : Array Slot), mH G (oset LX9 G q s_t (oset LX10 G q1 s_o1 h)) s.heap H locs → lv_has ls 9 [(0, .ref (q 7)), (1, .ref (q1 5)), (2, .int b2), (3, .long z.1), (5, .long z.2.1), (7, .int z.2.2)] → (∀ (H : Heap) (locs : List Loc) (ls : Array Slot), mH G (oset LX9 G q s_t (oset LX10 G q1 s_o1 h)) s.heap H locs → lv_has ls 9 [(0, .ref (q 7)), (1, .ref (q1 5)), (2, .int b2), (5, .long r)] → W p l e rm_X9_walkOn s m args below meth c H locs 0 0 Q (F0 m 82 ls [])) → W p l e rm_X9_walkOn s m args below meth c H locs 0 0 Q (F0 m 28 ls []) := by
  refine lpv_rec ?_
  intro z r x hF hx H locs ls hH hl K0
  obtain ⟨b3, b5, b7⟩ := z
  dsimp only [f_X9_walkOn_28] at hF
  try dsimp only at hH hl
  refine lv_iload X.x X.b (dk DX9_walkOn_0 17 rfl) (lv_at hl 5 rfl) ?_
  refine lv_bipush (v := 64) X.x X.b (dk DX9_walkOn_0 18 rfl) (by decide) ?_
  refine lv_icmp_ge (tgt := 82) X.x X.b (dk DX9_walkOn_0 19 rfl) (by decide) (fun c6 => ?_) (fun c6 => ?_)
  · replace hF := if_t hF c6
    have hr9 := lp_r hF hx
    subst hr9
    exact K0 _ _ _ hH (lv_sub hl [0, 1, 2, 4] rfl)
  · replace hF := if_f hF c6
    refine lv_lload_n X.x X.b (dk DX9_walkOn_0 20 rfl) rfl (lv_at hl 3 rfl) ?_
    refine lv_lconst (v := 0) X.x X.b (dk DX9_walkOn_0 21 rfl) (by decide) ?_
    refine W.lcmp X.x X.b (dk DX9_walkOn_0 22 rfl) ?_
    refine lv_if_eq (tgt := 82) X.x X.b (dk DX9_walkOn_0 23 rfl) (by decide) (fun c7 => ?_) (fun c7 => ?_)
    · replace hF := if_t hF c7
      have hr9 := lp_r hF hx
      subst hr9
      exact K0 _ _ _ hH (lv_sub hl [0, 1, 2, 4] rfl)
    · replace hF := if_f hF c7
      refine lv_lload_n X.x X.b (dk DX9_walkOn_0 24 rfl) rfl (lv_at hl 3 rfl) ?_
      obtain ⟨x8, e9, hF⟩ := bd hF
      refine mr_ci0 hH ⟨rfl, rfl⟩ (mr_runS (As := [.long b3]) (rest := []) X hH (c_J13_numberOfTrailingZeros_95d88 e9) kM_X9_57 kT_J13_numberOfTrailingZeros_95d88 kN_J13 kC_J13_numberOfTrailingZeros_95d88 hd_J13_numberOfTrailingZeros_95d88 ⟨Nat.le_of_ble_eq_true rfl, Nat.le_of_ble_eq_true rfl⟩ rfl hl.1 (Nat.le_of_ble_eq_true rfl) (dk DX9_walkOn_0 25 rfl) ⟨Nat.zero_le _, Nat.zero_le _⟩) (fun r h1 H locs hp hH => ?_)
      obtain ⟨hr1, hr2⟩ := hp; rw [hr1]; rw [hr2] at hH; clear hr1 hr2
      refine lv_istore (lv' := [(8, .int x8), (0, .ref (q 7)), (1, .ref (q1 5)), (2, .int b2), (3, .long b3), (5, .long b5), (7, .int b7)]) X.x X.b (dk DX9_walkOn_0 26 rfl) hl (by decide) rfl (fun ls hl => ?_)
      replace hl : lv_has ls 9 [(0, .ref (q 7)), (1, .ref (q1 5)), (2, .int b2), (3, .long b3), (5, .long b5), (7, .int b7), (8, .int x8)] := lv_sub hl [1, 2, 3, 4, 5, 6, 0] rfl
      refine lv_lload X.x X.b (dk DX9_walkOn_0 27 rfl) (lv_at hl 4 rfl) ?_
      refine lv_iload X.x X.b (dk DX9_walkOn_0 28 rfl) (lv_at hl 6 rfl) ?_
      refine lv_bipush (v := 64) X.x X.b (dk DX9_walkOn_0 29 rfl) (by decide) ?_
      refine lv_icmp_ge (tgt := 66) X.x X.b (dk DX9_walkOn_0 30 rfl) (by decide) (fun c11 => ?_) (fun c11 => ?_)
      · replace hF := if_t hF c11
        refine lv_lconst (v := 0) X.x X.b (dk DX9_walkOn_0 36 rfl) (by decide) ?_
        refine lv_ladd X.x X.b (dk DX9_walkOn_0 37 rfl) ?_
        refine lv_topl (fun v12 e13 => ?_)
        replace hF := bnd_e hF e13
        refine lv_lstore (lv' := [(5, .long v12), (0, .ref (q 7)), (1, .ref (q1 5)), (2, .int b2), (3, .long b3), (7, .int b7), (8, .int x8)]) X.x X.b (dk DX9_walkOn_0 38 rfl) hl (by decide) rfl (fun ls hl => ?_)
        replace hl : lv_has ls 9 [(0, .ref (q 7)), (1, .ref (q1 5)), (2, .int b2), (3, .long b3), (5, .long v12), (7, .int b7)] := lv_sub hl [1, 2, 3, 4, 0, 5] rfl
        refine lv_lload_n X.x X.b (dk DX9_walkOn_0 39 rfl) rfl (lv_at hl 3 rfl) ?_
        refine lv_lload_n X.x X.b (dk DX9_walkOn_0 40 rfl) rfl (lv_at hl 3 rfl) ?_
        refine lv_lconst (v := 1) X.x X.b (dk DX9_walkOn_0 41 rfl) (by decide) ?_
        refine lv_lsub X.x X.b (dk DX9_walkOn_0 42 rfl) ?_
        refine lv_land X.x X.b (dk DX9_walkOn_0 43 rfl) ?_
        refine lv_topl (fun v14 e15 => ?_)
        replace hF := bnd_e hF e15
        refine lv_lstore_n (lv' := [(3, .long v14), (0, .ref (q 7)), (1, .ref (q1 5)), (2, .int b2), (5, .long v12), (7, .int b7)]) X.x X.b (dk DX9_walkOn_0 44 rfl) rfl hl (by decide) rfl (fun ls hl => ?_)
        replace hl : lv_has ls 9 [(0, .ref (q 7)), (1, .ref (q1 5)), (2, .int b2), (3, .long v14), (5, .long v12), (7, .int b7)] := lv_sub hl [1, 2, 3, 0, 4, 5] rfl
        obtain ⟨v16, e17⟩ : ∃ y : Int32, y = b7 + 1 := ⟨_, rfl⟩
        replace hF := bnd_e hF e17
        refine lv_iinc (v := v16) (lv' := [(7, .int v16), (0, .ref (q 7)), (1, .ref (q1 5)), (2, .int b2), (3, .long v14), (5, .long v12)]) X.x X.b (dk DX9_walkOn_0 45 rfl) hl (k := 5) rfl (by rw [e17]; rfl) (by decide) rfl (fun ls hl => ?_)
        replace hl : lv_has ls 9 [(0, .ref (q 7)), (1, .ref (q1 5)), (2, .int b2), (3, .long v14), (5, .long v12), (7, .int v16)] := lv_sub hl [1, 2, 3, 4, 5, 0] rfl
        refine lv_goto (tgt := 28) X.x X.b (dk DX9_walkOn_0 46 rfl) (by decide) ?_
        exact (lp_l hF hx) _ _ _ hH (lv_sub hl [0, 1, 2, 3, 4, 5] rfl) K0
      · replace hF := if_f hF c11
        refine lv_aload_n X.x X.b (dk DX9_walkOn_0 31 rfl) rfl (lv_at hl 0 rfl) ?_
        refine og_getR (t := 1) OX9 X hq hH 0 (by decide) rfl kF_X9_11 (dk DX9_walkOn_0 32 rfl) ?_
        refine lv_iload X.x X.b (dk DX9_walkOn_0 33 rfl) (lv_at hl 6 rfl) ?_
        obtain ⟨c18, hF⟩ := gd hF
        refine og_lald X hq hH 0 (by decide) rfl (inb_in c18) (dk DX9_walkOn_0 34 rfl) ?_
        refine lv_goto (tgt := 67) X.x X.b (dk DX9_walkOn_0 35 rfl) (by decide) ?_
        refine lv_ladd X.x X.b (dk DX9_walkOn_0 37 rfl) ?_
        refine lv_topl (fun v19 e20 => ?_)
        replace hF := bnd_e hF e20
        refine lv_lstore (lv' := [(5, .long v19), (0, .ref (q 7)), (1, .ref (q1 5)), (2, .int b2), (3, .long b3), (7, .int b7), (8, .int x8)]) X.x X.b (dk DX9_walkOn_0 38 rfl) hl (by decide) rfl (fun ls hl => ?_)
        replace hl : lv_has ls 9 [(0, .ref (q 7)), (1, .ref (q1 5)), (2, .int b2), (3, .long b3), (5, .long v19), (7, .int b7)] := lv_sub hl [1, 2, 3, 4, 0, 5] rfl
        refine lv_lload_n X.x X.b (dk DX9_walkOn_0 39 rfl) rfl (lv_at hl 3 rfl) ?_
        refine lv_lload_n X.x X.b (dk DX9_walkOn_0 40 rfl) rfl (lv_at hl 3 rfl) ?_
        refine lv_lconst (v := 1) X.x X.b (dk DX9_walkOn_0 41 rfl) (by decide) ?_
        refine lv_lsub X.x X.b (dk DX9_walkOn_0 42 rfl) ?_
        refine lv_land X.x X.b (dk DX9_walkOn_0 43 rfl) ?_
        refine lv_topl (fun v21 e22 => ?_)
        replace hF := bnd_e hF e22
        refine lv_lstore_n (lv' := [(3, .long v21), (0, .ref (q 7)), (1, .ref (q1 5)), (2, .int b2), (5, .long v19), (7, .int b7)]) X.x X.b (dk DX9_walkOn_0 44 rfl) rfl hl (by decide) rfl (fun ls hl => ?_)
        replace hl : lv_has ls 9 [(0, .ref (q 7)), (1, .ref (q1 5)), (2, .int b2), (3, .long v21), (5, .long v19), (7, .int b7)] := lv_sub hl [1, 2, 3, 0, 4, 5] rfl
        obtain ⟨v23, e24⟩ : ∃ y : Int32, y = b7 + 1 := ⟨_, rfl⟩
        replace hF := bnd_e hF e24
        refine lv_iinc (v := v23) (lv' := [(7, .int v23), (0, .ref (q 7)), (1, .ref (q1 5)), (2, .int b2), (3, .long v21), (5, .long v19)]) X.x X.b (dk DX9_walkOn_0 45 rfl) hl (k := 5) rfl (by rw [e24]; rfl) (by decide) rfl (fun ls hl => ?_)
        replace hl : lv_has ls 9 [(0, .ref (q 7)), (1, .ref (q1 5)), (2, .int b2), (3, .long v21), (5, .long v19), (7, .int v23)] := lv_sub hl [1, 2, 3, 4, 5, 0] rfl
        refine lv_goto (tgt := 28) X.x X.b (dk DX9_walkOn_0 46 rfl) (by decide) ?_
        exact (lp_l hF hx) _ _ _ hH (lv_sub hl [0, 1, 2, 3, 4, 5] rfl) K0
set_option maxHeartbeats 4000000 in
set_option maxRecDepth 100000 in
theorem w_X9_walkOn_2 {p : Program} {l : Launch} {e : Env} {s : State} {m : MethodId} {args : Array Value} {below : List Frame} {meth : Method} {c : Code} {Q : State → Prop} {G : mG} {h : mM} {q : Nat → Nat} {q1 : Nat → Nat} (hq : oinj LX9 q) (hq1 : oinj LX10 q1) (ha : oap [(LX9, q), (LX10, q1)]) (X : mX G p m c cX9_walkOn 9 s args RX9) (s_o1 : OS) : ∀ (z : OS × Int32) (r : OS), lpv (f_X9_walkOn_2 s_o1) z = some r → ∀ (H : Heap) (locs : List Loc) (ls : Array Slot), mH G (oset LX9 G q z.1 (oset LX10 G q1 s_o1 h)) s.heap H locs → lv_has ls 9 [(0, .ref (q 7)), (1, .ref (q1 5)), (2, .int z.2)] → (∀ (H : Heap) (locs : List Loc) (ls : Array Slot), mH G (oset LX9 G q r (oset LX10 G q1 s_o1 h)) s.heap H locs → lv_has ls 9 [(0, .ref (q 7)), (1, .ref (q1 5))] → W p l e rm_X9_walkOn s m args below meth c H locs 0 0 Q (F0 m 96 ls [])) → W p l e rm_X9_walkOn s m args below meth c H locs 0 0 Q (F0 m 2 ls []) := by
  refine lpv_rec ?_
  intro z r x hF hx H locs ls hH hl K0
  obtain ⟨s_t, b2⟩ := z
  dsimp only [f_X9_walkOn_2] at hF
  try dsimp only at hH hl
  refine lv_iload_n X.x X.b (dk DX9_walkOn_0 2 rfl) rfl (lv_at hl 2 rfl) ?_
  refine lv_aload_n X.x X.b (dk DX9_walkOn_0 3 rfl) rfl (lv_at hl 1 rfl) ?_
  refine og_getIN OX10 X hq1 (mH_perm (l1 := [(LX9, q, s_t), (LX10, q1, s_o1)]) (l2 := [(LX10, q1, s_o1), (LX9, q, s_t)]) ha [1, 0] [1, 0] rfl rfl rfl hH) 0 (by decide) rfl kFN_X9_33 (dk DX9_walkOn_0 4 rfl) ?_
  refine lv_icmp_ge (tgt := 96) X.x X.b (dk DX9_walkOn_0 5 rfl) (by decide) (fun c1 => ?_) (fun c1 => ?_)
  · replace hF := if_t hF c1
    have hr9 := lp_r hF hx
    subst hr9
    exact K0 _ _ _ hH (lv_sub hl [0, 1] rfl)
  · replace hF := if_f hF c1
    refine lv_iload_n X.x X.b (dk DX9_walkOn_0 6 rfl) rfl (lv_at hl 2 rfl) ?_
    refine lv_bipush (v := 64) X.x X.b (dk DX9_walkOn_0 7 rfl) (by decide) ?_
    refine lv_icmp_ge (tgt := 96) X.x X.b (dk DX9_walkOn_0 8 rfl) (by decide) (fun c2 => ?_) (fun c2 => ?_)
    · replace hF := if_t hF c2
      have hr9 := lp_r hF hx
      subst hr9
      exact K0 _ _ _ hH (lv_sub hl [0, 1] rfl)
    · replace hF := if_f hF c2
      refine lv_aload_n X.x X.b (dk DX9_walkOn_0 9 rfl) rfl (lv_at hl 1 rfl) ?_
      refine lv_iload_n X.x X.b (dk DX9_walkOn_0 10 rfl) rfl (lv_at hl 2 rfl) ?_
      obtain ⟨x3, e4, hF⟩ := bd hF
      refine mr_cl0 (mH_perm (l1 := [(LX9, q, s_t), (LX10, q1, s_o1)]) (l2 := [(LX10, q1, s_o1), (LX9, q, s_t)]) ha [1, 0] [1, 0] rfl rfl rfl hH) ⟨rfl, rfl⟩ (mr_runV (As := [.int b2]) (rest := []) X (mH_perm (l1 := [(LX9, q, s_t), (LX10, q1, s_o1)]) (l2 := [(LX10, q1, s_o1), (LX9, q, s_t)]) ha [1, 0] [1, 0] rfl rfl rfl hH) (c_X10_nearAt hq1 e4) ((oset_at hq1 (Nat.le_refl _) ohas_N).trans (congrArg some ocell_N)) OX10.1 kM_X9_53 kI_X10_nearAt kS_X10_nearAt kN_X10 kC_X10_nearAt hd_X10_nearAt ⟨Nat.le_of_ble_eq_true rfl, Nat.le_of_ble_eq_true rfl⟩ rfl hl.1 (Nat.le_of_ble_eq_true rfl) (dk DX9_walkOn_0 11 rfl) ⟨Nat.zero_le _, Nat.zero_le _⟩) (fun r h1 H locs hp hH => ?_)
      obtain ⟨hr1, hr2⟩ := hp; rw [hr1]; rw [hr2] at hH; clear hr1 hr2
      replace hH : mH G (oset LX9 G q s_t (oset LX10 G q1 s_o1 h)) s.heap H locs := mH_unperm (l1 := [(LX9, q, s_t), (LX10, q1, s_o1)]) (l2 := [(LX10, q1, s_o1), (LX9, q, s_t)]) ha [1, 0] [1, 0] rfl rfl rfl hH
      refine lv_lstore_n (lv' := [(3, .long x3), (0, .ref (q 7)), (1, .ref (q1 5)), (2, .int b2)]) X.x X.b (dk DX9_walkOn_0 12 rfl) rfl hl (by decide) rfl (fun ls hl => ?_)
      replace hl : lv_has ls 9 [(0, .ref (q 7)), (1, .ref (q1 5)), (2, .int b2), (3, .long x3)] := lv_sub hl [1, 2, 3, 0] rfl
      refine lv_lconst (v := 0) X.x X.b (dk DX9_walkOn_0 13 rfl) (by decide) ?_
      refine lv_lstore (lv' := [(5, .long 0), (0, .ref (q 7)), (1, .ref (q1 5)), (2, .int b2), (3, .long x3)]) X.x X.b (dk DX9_walkOn_0 14 rfl) hl (by decide) rfl (fun ls hl => ?_)
      replace hl : lv_has ls 9 [(0, .ref (q 7)), (1, .ref (q1 5)), (2, .int b2), (3, .long x3), (5, .long 0)] := lv_sub hl [1, 2, 3, 4, 0] rfl
      refine lv_iconst (v := 0) X.x X.b (dk DX9_walkOn_0 15 rfl) (by decide) ?_
      refine lv_istore (lv' := [(7, .int 0), (0, .ref (q 7)), (1, .ref (q1 5)), (2, .int b2), (3, .long x3), (5, .long 0)]) X.x X.b (dk DX9_walkOn_0 16 rfl) hl (by decide) rfl (fun ls hl => ?_)
      replace hl : lv_has ls 9 [(0, .ref (q 7)), (1, .ref (q1 5)), (2, .int b2), (3, .long x3), (5, .long 0), (7, .int 0)] := lv_sub hl [1, 2, 3, 4, 5, 0] rfl
      obtain ⟨x25, e26, hF⟩ := bd hF
      replace hl : lv_has ls 9 [(0, .ref (q 7)), (1, .ref (q1 5)), (2, .int b2), (3, .long x3), (5, .long 0), (7, .int 0)] := lv_sub hl [0, 1, 2, 3, 4, 5] rfl
      refine w_X9_walkOn_28 hq hq1 ha X s_t s_o1 b2 _ _ e26 _ _ _ hH hl (fun H locs ls hH hl => ?_)
      refine lv_aload_n X.x X.b (dk DX9_walkOn_0 47 rfl) rfl (lv_at hl 0 rfl) ?_
      refine og_getR (t := 1) OX9 X hq hH 2 (by decide) rfl kF_X9_20 (dk DX9_walkOn_0 48 rfl) ?_
      refine lv_iload_n X.x X.b (dk DX9_walkOn_0 49 rfl) rfl (lv_at hl 2 rfl) ?_
      refine lv_lload X.x X.b (dk DX9_walkOn_0 50 rfl) (lv_at hl 3 rfl) ?_
      obtain ⟨c28, hF⟩ := gd hF
      refine og_last X hq hH 2 (by decide) rfl (inb_in c28) (dk DX9_walkOn_0 51 rfl) (fun H locs hH => ?_)
      obtain ⟨t29, e30⟩ : ∃ y, y = oB s_t 2 (vp_updL (s_t.2.2.2 2) (b2 : Int32).toNatClampNeg x25) := ⟨_, rfl⟩
      rw [← e30] at hH
      replace hF := bnd_e hF e30
      obtain ⟨v31, e32⟩ : ∃ y : Int32, y = b2 + 1 := ⟨_, rfl⟩
      replace hF := bnd_e hF e32
      refine lv_iinc (v := v31) (lv' := [(2, .int v31), (0, .ref (q 7)), (1, .ref (q1 5)), (5, .long x25)]) X.x X.b (dk DX9_walkOn_0 52 rfl) hl (k := 2) rfl (by rw [e32]; rfl) (by decide) rfl (fun ls hl => ?_)
      replace hl : lv_has ls 9 [(0, .ref (q 7)), (1, .ref (q1 5)), (2, .int v31)] := lv_sub hl [1, 2, 0] rfl
      refine lv_goto (tgt := 2) X.x X.b (dk DX9_walkOn_0 53 rfl) (by decide) ?_
      exact (lp_l hF hx) _ _ _ hH (lv_sub hl [0, 1, 2] rfl) K0
set_option maxHeartbeats 4000000 in
set_option maxRecDepth 100000 in
theorem c_X9_walkOn {l : Launch} {G : mG} {h : mM} {q : Nat → Nat} {q1 : Nat → Nat} (hq : oinj LX9 q) (hq1 : oinj LX10 q1) (ha : oap [(LX9, q), (LX10, q1)]) {st : OS} {st1 : OS} {x : OS} (hF : f_X9_walkOn st st1 = some x) : cQ l G yX9_walkOn cX9_walkOn 9 none rm_X9_walkOn [.ref (q 7), .ref (q1 5)] (oset LX9 G q st (oset LX10 G q1 st1 h)) (mQv G (fun h1 => h1 = oset LX9 G q x (oset LX10 G q1 st1 h))) := by
  refine mp_of (by decide +kernel) (Nat.le_of_ble_eq_true rfl) ?_
  intro p e s m below meth c X hr hlk hH hname ls hl
  dsimp only [f_X9_walkOn] at hF
  replace hl : lv_has ls 9 [(0, .ref (q 7)), (1, .ref (q1 5))] := hl
  refine lv_iconst (v := 0) X.x X.b (dk DX9_walkOn_0 0 rfl) (by decide) ?_
  refine lv_istore_n (lv' := [(2, .int 0), (0, .ref (q 7)), (1, .ref (q1 5))]) X.x X.b (dk DX9_walkOn_0 1 rfl) rfl hl (by decide) rfl (fun ls hl => ?_)
  replace hl : lv_has ls 9 [(0, .ref (q 7)), (1, .ref (q1 5)), (2, .int 0)] := lv_sub hl [1, 2, 0] rfl
  obtain ⟨x33, e34, hF⟩ := bd hF
  replace hl : lv_has ls 9 [(0, .ref (q 7)), (1, .ref (q1 5)), (2, .int 0)] := lv_sub hl [0, 1, 2] rfl
  refine w_X9_walkOn_2 hq hq1 ha X st1 _ _ e34 _ _ _ hH hl (fun H locs ls hH hl => ?_)
  refine lv_aload_n X.x X.b (dk DX9_walkOn_0 54 rfl) rfl (lv_at hl 0 rfl) ?_
  refine og_getR (t := 1) OX9 X hq hH 2 (by decide) rfl kF_X9_20 (dk DX9_walkOn_0 55 rfl) ?_
  refine lv_iconst (v := 0) X.x X.b (dk DX9_walkOn_0 56 rfl) (by decide) ?_
  refine lv_aload_n X.x X.b (dk DX9_walkOn_0 57 rfl) rfl (lv_at hl 0 rfl) ?_
  refine og_getR (t := 1) OX9 X hq hH 0 (by decide) rfl kF_X9_11 (dk DX9_walkOn_0 58 rfl) ?_
  refine lv_iconst (v := 0) X.x X.b (dk DX9_walkOn_0 59 rfl) (by decide) ?_
  refine lv_aload_n X.x X.b (dk DX9_walkOn_1 0 rfl) rfl (lv_at hl 1 rfl) ?_
  refine og_getIN OX10 X hq1 (mH_perm (l1 := [(LX9, q, x33), (LX10, q1, st1)]) (l2 := [(LX10, q1, st1), (LX9, q, x33)]) ha [1, 0] [1, 0] rfl rfl rfl hH) 0 (by decide) rfl kFN_X9_33 (dk DX9_walkOn_1 1 rfl) ?_
  refine lv_bipush (v := 64) X.x X.b (dk DX9_walkOn_1 2 rfl) (by decide) ?_
  obtain ⟨x36, e37, hF⟩ := bd hF
  refine mr_ci0 hH ⟨rfl, rfl⟩ (mr_runS (As := [.int (st1.1 0), .int 64]) (rest := [.int 0, .ref (q 0), .int 0, .ref (q 2)]) X hH (c_J9_min_7cf53 e37) kM_X9_63 kT_J9_min_7cf53 kN_J9 kC_J9_min_7cf53 hd_J9_min_7cf53 ⟨Nat.le_of_ble_eq_true rfl, Nat.le_of_ble_eq_true rfl⟩ rfl hl.1 (Nat.le_of_ble_eq_true rfl) (dk DX9_walkOn_1 3 rfl) ⟨Nat.zero_le _, Nat.zero_le _⟩) (fun r h1 H locs hp hH => ?_)
  obtain ⟨hr1, hr2⟩ := hp; rw [hr1]; rw [hr2] at hH; clear hr1 hr2
  obtain ⟨c39, hF⟩ := gd hF
  refine og_copyl X hl.1 hq hH 0 (by decide) rfl ((oset_at hq (k := 2) (by decide) rfl).trans (congrArg some (oc_k (t := 3) (n := 64) (by decide) rfl))) c39 kM_X9_47 kV_rraycopyName kT_rraycopyName kN_J10 (Nat.le_of_ble_eq_true rfl) (Nat.le_of_ble_eq_true rfl) (dk DX9_walkOn_1 4 rfl) (fun H locs hH => ?_)
  obtain ⟨t40, e41⟩ : ∃ y, y = oB x33 0 (va_cpy (x33.2.2.2 2) (x33.2.2.2 0) (0 : Int32).toNatClampNeg (0 : Int32).toNatClampNeg (x36 : Int32).toNatClampNeg) := ⟨_, rfl⟩
  rw [← e41] at hH
  replace hF := bnd_e hF e41
  cases sm hF
  exact mr_vret X hr hlk hH rfl (dk DX9_walkOn_1 5 rfl)
-- X9_walksFrom
abbrev rm_X9_walksFrom : Room := { frames := 3, cells := 0, slots := 0, locals := 71 }
theorem hd_X9_walksFrom : mHd yX9_walksFrom 3 := ⟨by decide +kernel, by decide +kernel, by decide +kernel⟩
theorem DX9_walksFrom_0 : ∀ t ∈ ([(0, .iconst 0, 1), (1, .istore 4, 2), (3, .iload 4, 2), (5, .bipush 64, 2), (7, .if_icmp .ge 27, 3), (10, .aload_n 0, 1), (11, .getfield 11, 3), (14, .iload 4, 2), (16, .iload 4, 2), (18, .iload_n 2, 1), (19, .if_icmp .ne 7, 3), (22, .lconst 1, 1), (23, .goto 4, 3), (26, .lconst 0, 1), (27, .lastore, 1), (28, .iinc 4 1, 3), (31, .goto (-28), 3), (34, .iconst 0, 1), (35, .istore 4, 2), (37, .iload 4, 2), (39, .iload_n 3, 1), (40, .iconst 2, 1), (41, .idiv, 1), (42, .if_icmp .ge 14, 3), (45, .aload_n 0, 1), (46, .aload_n 1, 1), (47, .invokevirtual 43, 3), (50, .iinc 4 1, 3), (53, .goto (-16), 3), (56, .aload_n 0, 1), (57, .getfield 11, 3), (60, .iconst 0, 1), (61, .aload_n 0, 1), (62, .getfield 17, 3), (65, .iconst 0, 1), (66, .bipush 64, 2), (68, .invokestatic 47, 3), (71, .iload_n 3, 1), (72, .iconst 2, 1), (73, .irem, 1), (74, .iconst 1, 1), (75, .if_icmp .ne 8, 3), (78, .aload_n 0, 1), (79, .aload_n 1, 1), (80, .invokevirtual 43, 3), (83, .lconst 0, 1), (84, .lstore 4, 2), (86, .iconst 0, 1), (87, .istore 6, 2), (89, .iload 6, 2), (91, .bipush 64, 2), (93, .if_icmp .ge 29, 3), (96, .lload 4, 2), (98, .aload_n 0, 1), (99, .getfield 17, 3), (102, .iload 6, 2), (104, .laload, 1), (105, .aload_n 0, 1), (106, .getfield 11, 3), (109, .iload 6, 2)] : List (Nat × Instr × Nat)), decode cX9_walksFrom t.1 = .ok (t.2.1, t.2.2) := by decide +kernel
theorem DX9_walksFrom_1 : ∀ t ∈ ([(111, .laload, 1), (112, .lmul, 1), (113, .ladd, 1), (114, .lstore 4, 2), (116, .iinc 6 1, 3), (119, .goto (-30), 3), (122, .lload 4, 2), (124, .lreturn, 1)] : List (Nat × Instr × Nat)), decode cX9_walksFrom t.1 = .ok (t.2.1, t.2.2) := by decide +kernel
noncomputable def f_X9_walksFrom_3 (s_o1 : OS) (b2 : Int32) (b3 : Int32) : (OS × Int32) → Option ((OS × Int32) ⊕ (OS)) := fun z => match z with | (s_t, b4) => (if 64 ≤ b4 then some (.inr s_t) else (if b4 = b2 then if inb b4 64 = true then bnd (oB s_t 0 (vp_updL (s_t.2.2.2 0) (b4 : Int32).toNatClampNeg 1)) (fun t9 => bnd (b4 + 1 : Int32) (fun v11 => some (.inl ((t9, v11))))) else none else if inb b4 64 = true then bnd (oB s_t 0 (vp_updL (s_t.2.2.2 0) (b4 : Int32).toNatClampNeg 0)) (fun t4 => bnd (b4 + 1 : Int32) (fun v6 => some (.inl ((t4, v6))))) else none))
noncomputable def f_X9_walksFrom_37 (s_o1 : OS) (b3 : Int32) : (OS × Int32) → Option ((OS × Int32) ⊕ (OS)) := fun z => match z with | (s_t, b4) => (if (b3 / 2) ≤ b4 then some (.inr s_t) else (f_X9_walkOn s_t s_o1).bind (fun x17 => bnd (b4 + 1 : Int32) (fun v20 => some (.inl ((x17, v20))))))
noncomputable def f_X9_walksFrom_89 (s_t : OS) (s_o1 : OS) : (Int64 × Int32) → Option ((Int64 × Int32) ⊕ (Int64)) := fun z => match z with | (b4, b6) => (if 64 ≤ b6 then some (.inr b4) else if inb b6 64 = true then bnd (b4 + ((s_t.2.2.2 1 (b6 : Int32).toNatClampNeg) * (s_t.2.2.2 0 (b6 : Int32).toNatClampNeg)) : Int64) (fun v31 => bnd (b6 + 1 : Int32) (fun v33 => some (.inl ((v31, v33))))) else none)
noncomputable def f_X9_walksFrom (st : OS) (st1 : OS) (a1 : Int32) (a2 : Int32) : Option (Int64 × OS) := (lpv (f_X9_walksFrom_3 st1 a1 a2) ((st, 0))).bind (fun x13 => (lpv (f_X9_walksFrom_37 st1 a2) ((x13, 0))).bind (fun x22 => if okc 0 0 64 64 64 = true then bnd (oB x22 1 (va_cpy (x22.2.2.2 0) (x22.2.2.2 1) (0 : Int32).toNatClampNeg (0 : Int32).toNatClampNeg (64 : Int32).toNatClampNeg)) (fun t26 => (if (a2 - a2 / 2 * 2) = 1 then (f_X9_walkOn t26 st1).bind (fun x38 => (lpv (f_X9_walksFrom_89 x38 st1) ((0, 0))).bind (fun x41 => some ((x41, x38)))) else (lpv (f_X9_walksFrom_89 t26 st1) ((0, 0))).bind (fun x35 => some ((x35, t26))))) else none))
set_option maxHeartbeats 4000000 in
set_option maxRecDepth 100000 in
theorem w_X9_walksFrom_3 {p : Program} {l : Launch} {e : Env} {s : State} {m : MethodId} {args : Array Value} {below : List Frame} {meth : Method} {c : Code} {Q : State → Prop} {G : mG} {h : mM} {q : Nat → Nat} {q1 : Nat → Nat} (hq : oinj LX9 q) (hq1 : oinj LX10 q1) (ha : oap [(LX9, q), (LX10, q1)]) (X : mX G p m c cX9_walksFrom 7 s args RX9) (s_o1 : OS) (b2 : Int32) (b3 : Int32) : ∀ (z : OS × Int32) (r : OS), lpv (f_X9_walksFrom_3 s_o1 b2 b3) z = some r → ∀ (H : Heap) (locs : List Loc) (ls : Array Slot), mH G (oset LX9 G q z.1 (oset LX10 G q1 s_o1 h)) s.heap H locs → lv_has ls 7 [(0, .ref (q 7)), (1, .ref (q1 5)), (2, .int b2), (3, .int b3), (4, .int z.2)] → (∀ (H : Heap) (locs : List Loc) (ls : Array Slot), mH G (oset LX9 G q r (oset LX10 G q1 s_o1 h)) s.heap H locs → lv_has ls 7 [(0, .ref (q 7)), (1, .ref (q1 5)), (3, .int b3)] → W p l e rm_X9_walksFrom s m args below meth c H locs 0 0 Q (F0 m 34 ls [])) → W p l e rm_X9_walksFrom s m args below meth c H locs 0 0 Q (F0 m 3 ls []) := by
  refine lpv_rec ?_
  intro z r x hF hx H locs ls hH hl K0
  obtain ⟨s_t, b4⟩ := z
  dsimp only [f_X9_walksFrom_3] at hF
  try dsimp only at hH hl
  refine lv_iload X.x X.b (dk DX9_walksFrom_0 2 rfl) (lv_at hl 4 rfl) ?_
  refine lv_bipush (v := 64) X.x X.b (dk DX9_walksFrom_0 3 rfl) (by decide) ?_
  refine lv_icmp_ge (tgt := 34) X.x X.b (dk DX9_walksFrom_0 4 rfl) (by decide) (fun c1 => ?_) (fun c1 => ?_)
  · replace hF := if_t hF c1
    have hr9 := lp_r hF hx
    subst hr9
    exact K0 _ _ _ hH (lv_sub hl [0, 1, 3] rfl)
  · replace hF := if_f hF c1
    refine lv_aload_n X.x X.b (dk DX9_walksFrom_0 5 rfl) rfl (lv_at hl 0 rfl) ?_
    refine og_getR (t := 1) OX9 X hq hH 0 (by decide) rfl kF_X9_11 (dk DX9_walksFrom_0 6 rfl) ?_
    refine lv_iload X.x X.b (dk DX9_walksFrom_0 7 rfl) (lv_at hl 4 rfl) ?_
    refine lv_iload X.x X.b (dk DX9_walksFrom_0 8 rfl) (lv_at hl 4 rfl) ?_
    refine lv_iload_n X.x X.b (dk DX9_walksFrom_0 9 rfl) rfl (lv_at hl 2 rfl) ?_
    refine lv_icmp_ne (tgt := 26) X.x X.b (dk DX9_walksFrom_0 10 rfl) (by decide) (fun c2 => ?_) (fun c2 => ?_)
    · replace hF := if_f hF c2
      refine lv_lconst (v := 0) X.x X.b (dk DX9_walksFrom_0 13 rfl) (by decide) ?_
      obtain ⟨c3, hF⟩ := gd hF
      refine og_last X hq hH 0 (by decide) rfl (inb_in c3) (dk DX9_walksFrom_0 14 rfl) (fun H locs hH => ?_)
      obtain ⟨t4, e5⟩ : ∃ y, y = oB s_t 0 (vp_updL (s_t.2.2.2 0) (b4 : Int32).toNatClampNeg 0) := ⟨_, rfl⟩
      rw [← e5] at hH
      replace hF := bnd_e hF e5
      obtain ⟨v6, e7⟩ : ∃ y : Int32, y = b4 + 1 := ⟨_, rfl⟩
      replace hF := bnd_e hF e7
      refine lv_iinc (v := v6) (lv' := [(4, .int v6), (0, .ref (q 7)), (1, .ref (q1 5)), (2, .int b2), (3, .int b3)]) X.x X.b (dk DX9_walksFrom_0 15 rfl) hl (k := 4) rfl (by rw [e7]; rfl) (by decide) rfl (fun ls hl => ?_)
      replace hl : lv_has ls 7 [(0, .ref (q 7)), (1, .ref (q1 5)), (2, .int b2), (3, .int b3), (4, .int v6)] := lv_sub hl [1, 2, 3, 4, 0] rfl
      refine lv_goto (tgt := 3) X.x X.b (dk DX9_walksFrom_0 16 rfl) (by decide) ?_
      exact (lp_l hF hx) _ _ _ hH (lv_sub hl [0, 1, 2, 3, 4] rfl) K0
    · replace hF := if_t hF c2
      refine lv_lconst (v := 1) X.x X.b (dk DX9_walksFrom_0 11 rfl) (by decide) ?_
      refine lv_goto (tgt := 27) X.x X.b (dk DX9_walksFrom_0 12 rfl) (by decide) ?_
      obtain ⟨c8, hF⟩ := gd hF
      refine og_last X hq hH 0 (by decide) rfl (inb_in c8) (dk DX9_walksFrom_0 14 rfl) (fun H locs hH => ?_)
      obtain ⟨t9, e10⟩ : ∃ y, y = oB s_t 0 (vp_updL (s_t.2.2.2 0) (b4 : Int32).toNatClampNeg 1) := ⟨_, rfl⟩
      rw [← e10] at hH
      replace hF := bnd_e hF e10
      obtain ⟨v11, e12⟩ : ∃ y : Int32, y = b4 + 1 := ⟨_, rfl⟩
      replace hF := bnd_e hF e12
      refine lv_iinc (v := v11) (lv' := [(4, .int v11), (0, .ref (q 7)), (1, .ref (q1 5)), (2, .int b2), (3, .int b3)]) X.x X.b (dk DX9_walksFrom_0 15 rfl) hl (k := 4) rfl (by rw [e12]; rfl) (by decide) rfl (fun ls hl => ?_)
      replace hl : lv_has ls 7 [(0, .ref (q 7)), (1, .ref (q1 5)), (2, .int b2), (3, .int b3), (4, .int v11)] := lv_sub hl [1, 2, 3, 4, 0] rfl
      refine lv_goto (tgt := 3) X.x X.b (dk DX9_walksFrom_0 16 rfl) (by decide) ?_
      exact (lp_l hF hx) _ _ _ hH (lv_sub hl [0, 1, 2, 3, 4] rfl) K0
set_option maxHeartbeats 4000000 in
set_option maxRecDepth 100000 in
theorem w_X9_walksFrom_37 {p : Program} {l : Launch} {e : Env} {s : State} {m : MethodId} {args : Array Value} {below : List Frame} {meth : Method} {c : Code} {Q : State → Prop} {G : mG} {h : mM} {q : Nat → Nat} {q1 : Nat → Nat} (hq : oinj LX9 q) (hq1 : oinj LX10 q1) (ha : oap [(LX9, q), (LX10, q1)]) (X : mX G p m c cX9_walksFrom 7 s args RX9) (s_o1 : OS) (b3 : Int32) : ∀ (z : OS × Int32) (r : OS), lpv (f_X9_walksFrom_37 s_o1 b3) z = some r → ∀ (H : Heap) (locs : List Loc) (ls : Array Slot), mH G (oset LX9 G q z.1 (oset LX10 G q1 s_o1 h)) s.heap H locs → lv_has ls 7 [(0, .ref (q 7)), (1, .ref (q1 5)), (3, .int b3), (4, .int z.2)] → (∀ (H : Heap) (locs : List Loc) (ls : Array Slot), mH G (oset LX9 G q r (oset LX10 G q1 s_o1 h)) s.heap H locs → lv_has ls 7 [(0, .ref (q 7)), (1, .ref (q1 5)), (3, .int b3)] → W p l e rm_X9_walksFrom s m args below meth c H locs 0 0 Q (F0 m 56 ls [])) → W p l e rm_X9_walksFrom s m args below meth c H locs 0 0 Q (F0 m 37 ls []) := by
  refine lpv_rec ?_
  intro z r x hF hx H locs ls hH hl K0
  obtain ⟨s_t, b4⟩ := z
  dsimp only [f_X9_walksFrom_37] at hF
  try dsimp only at hH hl
  refine lv_iload X.x X.b (dk DX9_walksFrom_0 19 rfl) (lv_at hl 3 rfl) ?_
  refine lv_iload_n X.x X.b (dk DX9_walksFrom_0 20 rfl) rfl (lv_at hl 2 rfl) ?_
  refine lv_iconst (v := 2) X.x X.b (dk DX9_walksFrom_0 21 rfl) (by decide) ?_
  refine lv_idiv X.x X.b (dk DX9_walksFrom_0 22 rfl) (by decide) ?_
  refine lv_icmp_ge (tgt := 56) X.x X.b (dk DX9_walksFrom_0 23 rfl) (by decide) (fun c16 => ?_) (fun c16 => ?_)
  · replace hF := if_t hF c16
    have hr9 := lp_r hF hx
    subst hr9
    exact K0 _ _ _ hH (lv_sub hl [0, 1, 2] rfl)
  · replace hF := if_f hF c16
    refine lv_aload_n X.x X.b (dk DX9_walksFrom_0 24 rfl) rfl (lv_at hl 0 rfl) ?_
    refine lv_aload_n X.x X.b (dk DX9_walksFrom_0 25 rfl) rfl (lv_at hl 1 rfl) ?_
    obtain ⟨x17, e18, hF⟩ := bd hF
    refine mr_cv0 hH ⟨rfl, rfl⟩ (mr_runV (As := [.ref (q1 5)]) (rest := []) X hH (c_X9_walkOn hq hq1 ha e18) ((oset_at hq (Nat.le_refl _) ohas_N).trans (congrArg some ocell_N)) OX9.1 kM_X9_43 kI_X9_walkOn kS_X9_walkOn kN_X9 kC_X9_walkOn hd_X9_walkOn ⟨Nat.le_of_ble_eq_true rfl, Nat.le_of_ble_eq_true rfl⟩ rfl hl.1 (Nat.le_of_ble_eq_true rfl) (dk DX9_walksFrom_0 26 rfl) ⟨Nat.zero_le _, Nat.zero_le _⟩) (fun h1 H locs hp hH => ?_)
    rw [hp] at hH; clear hp
    obtain ⟨v20, e21⟩ : ∃ y : Int32, y = b4 + 1 := ⟨_, rfl⟩
    replace hF := bnd_e hF e21
    refine lv_iinc (v := v20) (lv' := [(4, .int v20), (0, .ref (q 7)), (1, .ref (q1 5)), (3, .int b3)]) X.x X.b (dk DX9_walksFrom_0 27 rfl) hl (k := 3) rfl (by rw [e21]; rfl) (by decide) rfl (fun ls hl => ?_)
    replace hl : lv_has ls 7 [(0, .ref (q 7)), (1, .ref (q1 5)), (3, .int b3), (4, .int v20)] := lv_sub hl [1, 2, 3, 0] rfl
    refine lv_goto (tgt := 37) X.x X.b (dk DX9_walksFrom_0 28 rfl) (by decide) ?_
    exact (lp_l hF hx) _ _ _ hH (lv_sub hl [0, 1, 2, 3] rfl) K0
set_option maxHeartbeats 4000000 in
set_option maxRecDepth 100000 in
theorem w_X9_walksFrom_89 {p : Program} {l : Launch} {e : Env} {s : State} {m : MethodId} {args : Array Value} {below : List Frame} {meth : Method} {c : Code} {Q : State → Prop} {G : mG} {h : mM} {q : Nat → Nat} {q1 : Nat → Nat} (hq : oinj LX9 q) (hq1 : oinj LX10 q1) (ha : oap [(LX9, q), (LX10, q1)]) (X : mX G p m c cX9_walksFrom 7 s args RX9) (s_t : OS) (s_o1 : OS) : ∀ (z : Int64 × Int32) (r : Int64), lpv (f_X9_walksFrom_89 s_t s_o1) z = some r → ∀ (H : Heap) (locs : List Loc) (ls : Array Slot), mH G (oset LX9 G q s_t (oset LX10 G q1 s_o1 h)) s.heap H locs → lv_has ls 7 [(0, .ref (q 7)), (4, .long z.1), (6, .int z.2)] → (∀ (H : Heap) (locs : List Loc) (ls : Array Slot), mH G (oset LX9 G q s_t (oset LX10 G q1 s_o1 h)) s.heap H locs → lv_has ls 7 [(4, .long r)] → W p l e rm_X9_walksFrom s m args below meth c H locs 0 0 Q (F0 m 122 ls [])) → W p l e rm_X9_walksFrom s m args below meth c H locs 0 0 Q (F0 m 89 ls []) := by
  refine lpv_rec ?_
  intro z r x hF hx H locs ls hH hl K0
  obtain ⟨b4, b6⟩ := z
  dsimp only [f_X9_walksFrom_89] at hF
  try dsimp only at hH hl
  refine lv_iload X.x X.b (dk DX9_walksFrom_0 49 rfl) (lv_at hl 2 rfl) ?_
  refine lv_bipush (v := 64) X.x X.b (dk DX9_walksFrom_0 50 rfl) (by decide) ?_
  refine lv_icmp_ge (tgt := 122) X.x X.b (dk DX9_walksFrom_0 51 rfl) (by decide) (fun c29 => ?_) (fun c29 => ?_)
  · replace hF := if_t hF c29
    have hr9 := lp_r hF hx
    subst hr9
    exact K0 _ _ _ hH (lv_sub hl [1] rfl)
  · replace hF := if_f hF c29
    refine lv_lload X.x X.b (dk DX9_walksFrom_0 52 rfl) (lv_at hl 1 rfl) ?_
    refine lv_aload_n X.x X.b (dk DX9_walksFrom_0 53 rfl) rfl (lv_at hl 0 rfl) ?_
    refine og_getR (t := 1) OX9 X hq hH 1 (by decide) rfl kF_X9_17 (dk DX9_walksFrom_0 54 rfl) ?_
    refine lv_iload X.x X.b (dk DX9_walksFrom_0 55 rfl) (lv_at hl 2 rfl) ?_
    obtain ⟨c30, hF⟩ := gd hF
    refine og_lald X hq hH 1 (by decide) rfl (inb_in c30) (dk DX9_walksFrom_0 56 rfl) ?_
    refine lv_aload_n X.x X.b (dk DX9_walksFrom_0 57 rfl) rfl (lv_at hl 0 rfl) ?_
    refine og_getR (t := 1) OX9 X hq hH 0 (by decide) rfl kF_X9_11 (dk DX9_walksFrom_0 58 rfl) ?_
    refine lv_iload X.x X.b (dk DX9_walksFrom_0 59 rfl) (lv_at hl 2 rfl) ?_
    refine og_lald X hq hH 0 (by decide) rfl (inb_in c30) (dk DX9_walksFrom_1 0 rfl) ?_
    refine lv_lmul X.x X.b (dk DX9_walksFrom_1 1 rfl) ?_
    refine lv_ladd X.x X.b (dk DX9_walksFrom_1 2 rfl) ?_
    refine lv_topl (fun v31 e32 => ?_)
    replace hF := bnd_e hF e32
    refine lv_lstore (lv' := [(4, .long v31), (0, .ref (q 7)), (6, .int b6)]) X.x X.b (dk DX9_walksFrom_1 3 rfl) hl (by decide) rfl (fun ls hl => ?_)
    replace hl : lv_has ls 7 [(0, .ref (q 7)), (4, .long v31), (6, .int b6)] := lv_sub hl [1, 0, 2] rfl
    obtain ⟨v33, e34⟩ : ∃ y : Int32, y = b6 + 1 := ⟨_, rfl⟩
    replace hF := bnd_e hF e34
    refine lv_iinc (v := v33) (lv' := [(6, .int v33), (0, .ref (q 7)), (4, .long v31)]) X.x X.b (dk DX9_walksFrom_1 4 rfl) hl (k := 2) rfl (by rw [e34]; rfl) (by decide) rfl (fun ls hl => ?_)
    replace hl : lv_has ls 7 [(0, .ref (q 7)), (4, .long v31), (6, .int v33)] := lv_sub hl [1, 2, 0] rfl
    refine lv_goto (tgt := 89) X.x X.b (dk DX9_walksFrom_1 5 rfl) (by decide) ?_
    exact (lp_l hF hx) _ _ _ hH (lv_sub hl [0, 1, 2] rfl) K0
set_option maxHeartbeats 4000000 in
set_option maxRecDepth 100000 in
theorem c_X9_walksFrom {l : Launch} {G : mG} {h : mM} {q : Nat → Nat} {q1 : Nat → Nat} (hq : oinj LX9 q) (hq1 : oinj LX10 q1) (ha : oap [(LX9, q), (LX10, q1)]) {st : OS} {st1 : OS} {a1 : Int32} {a2 : Int32} {x : Int64 × OS} (hF : f_X9_walksFrom st st1 a1 a2 = some x) : cQ l G yX9_walksFrom cX9_walksFrom 7 (some FieldType.long) rm_X9_walksFrom [.ref (q 7), .ref (q1 5), .int a1, .int a2] (oset LX9 G q st (oset LX10 G q1 st1 h)) (mQl G (fun r h1 => r = x.1 ∧ h1 = oset LX9 G q x.2 (oset LX10 G q1 st1 h))) := by
  refine mp_of (by decide +kernel) (Nat.le_of_ble_eq_true rfl) ?_
  intro p e s m below meth c X hr hlk hH hname ls hl
  dsimp only [f_X9_walksFrom] at hF
  replace hl : lv_has ls 7 [(0, .ref (q 7)), (1, .ref (q1 5)), (2, .int a1), (3, .int a2)] := hl
  refine lv_iconst (v := 0) X.x X.b (dk DX9_walksFrom_0 0 rfl) (by decide) ?_
  refine lv_istore (lv' := [(4, .int 0), (0, .ref (q 7)), (1, .ref (q1 5)), (2, .int a1), (3, .int a2)]) X.x X.b (dk DX9_walksFrom_0 1 rfl) hl (by decide) rfl (fun ls hl => ?_)
  replace hl : lv_has ls 7 [(0, .ref (q 7)), (1, .ref (q1 5)), (2, .int a1), (3, .int a2), (4, .int 0)] := lv_sub hl [1, 2, 3, 4, 0] rfl
  obtain ⟨x13, e14, hF⟩ := bd hF
  replace hl : lv_has ls 7 [(0, .ref (q 7)), (1, .ref (q1 5)), (2, .int a1), (3, .int a2), (4, .int 0)] := lv_sub hl [0, 1, 2, 3, 4] rfl
  refine w_X9_walksFrom_3 hq hq1 ha X st1 a1 a2 _ _ e14 _ _ _ hH hl (fun H locs ls hH hl => ?_)
  refine lv_iconst (v := 0) X.x X.b (dk DX9_walksFrom_0 17 rfl) (by decide) ?_
  refine lv_istore (lv' := [(4, .int 0), (0, .ref (q 7)), (1, .ref (q1 5)), (3, .int a2)]) X.x X.b (dk DX9_walksFrom_0 18 rfl) hl (by decide) rfl (fun ls hl => ?_)
  replace hl : lv_has ls 7 [(0, .ref (q 7)), (1, .ref (q1 5)), (3, .int a2), (4, .int 0)] := lv_sub hl [1, 2, 3, 0] rfl
  obtain ⟨x22, e23, hF⟩ := bd hF
  replace hl : lv_has ls 7 [(0, .ref (q 7)), (1, .ref (q1 5)), (3, .int a2), (4, .int 0)] := lv_sub hl [0, 1, 2, 3] rfl
  refine w_X9_walksFrom_37 hq hq1 ha X st1 a2 _ _ e23 _ _ _ hH hl (fun H locs ls hH hl => ?_)
  refine lv_aload_n X.x X.b (dk DX9_walksFrom_0 29 rfl) rfl (lv_at hl 0 rfl) ?_
  refine og_getR (t := 1) OX9 X hq hH 0 (by decide) rfl kF_X9_11 (dk DX9_walksFrom_0 30 rfl) ?_
  refine lv_iconst (v := 0) X.x X.b (dk DX9_walksFrom_0 31 rfl) (by decide) ?_
  refine lv_aload_n X.x X.b (dk DX9_walksFrom_0 32 rfl) rfl (lv_at hl 0 rfl) ?_
  refine og_getR (t := 1) OX9 X hq hH 1 (by decide) rfl kF_X9_17 (dk DX9_walksFrom_0 33 rfl) ?_
  refine lv_iconst (v := 0) X.x X.b (dk DX9_walksFrom_0 34 rfl) (by decide) ?_
  refine lv_bipush (v := 64) X.x X.b (dk DX9_walksFrom_0 35 rfl) (by decide) ?_
  obtain ⟨c25, hF⟩ := gd hF
  refine og_copyl X hl.1 hq hH 1 (by decide) rfl ((oset_at hq (k := 0) (by decide) rfl).trans (congrArg some (oc_k (t := 3) (n := 64) (by decide) rfl))) c25 kM_X9_47 kV_rraycopyName kT_rraycopyName kN_J10 (Nat.le_of_ble_eq_true rfl) (Nat.le_of_ble_eq_true rfl) (dk DX9_walksFrom_0 36 rfl) (fun H locs hH => ?_)
  obtain ⟨t26, e27⟩ : ∃ y, y = oB x22 1 (va_cpy (x22.2.2.2 0) (x22.2.2.2 1) (0 : Int32).toNatClampNeg (0 : Int32).toNatClampNeg (64 : Int32).toNatClampNeg) := ⟨_, rfl⟩
  rw [← e27] at hH
  replace hF := bnd_e hF e27
  refine lv_iload_n X.x X.b (dk DX9_walksFrom_0 37 rfl) rfl (lv_at hl 2 rfl) ?_
  refine lv_iconst (v := 2) X.x X.b (dk DX9_walksFrom_0 38 rfl) (by decide) ?_
  refine lv_irem X.x X.b (dk DX9_walksFrom_0 39 rfl) (by decide) ?_
  refine lv_iconst (v := 1) X.x X.b (dk DX9_walksFrom_0 40 rfl) (by decide) ?_
  refine lv_icmp_ne (tgt := 83) X.x X.b (dk DX9_walksFrom_0 41 rfl) (by decide) (fun c28 => ?_) (fun c28 => ?_)
  · replace hF := if_f hF c28
    refine lv_lconst (v := 0) X.x X.b (dk DX9_walksFrom_0 45 rfl) (by decide) ?_
    refine lv_lstore (lv' := [(4, .long 0), (0, .ref (q 7)), (1, .ref (q1 5)), (3, .int a2)]) X.x X.b (dk DX9_walksFrom_0 46 rfl) hl (by decide) rfl (fun ls hl => ?_)
    replace hl : lv_has ls 7 [(0, .ref (q 7)), (4, .long 0)] := lv_sub hl [1, 0] rfl
    refine lv_iconst (v := 0) X.x X.b (dk DX9_walksFrom_0 47 rfl) (by decide) ?_
    refine lv_istore (lv' := [(6, .int 0), (0, .ref (q 7)), (4, .long 0)]) X.x X.b (dk DX9_walksFrom_0 48 rfl) hl (by decide) rfl (fun ls hl => ?_)
    replace hl : lv_has ls 7 [(0, .ref (q 7)), (4, .long 0), (6, .int 0)] := lv_sub hl [1, 2, 0] rfl
    obtain ⟨x35, e36, hF⟩ := bd hF
    replace hl : lv_has ls 7 [(0, .ref (q 7)), (4, .long 0), (6, .int 0)] := lv_sub hl [0, 1, 2] rfl
    refine w_X9_walksFrom_89 hq hq1 ha X t26 st1 _ _ e36 _ _ _ hH hl (fun H locs ls hH hl => ?_)
    refine lv_lload X.x X.b (dk DX9_walksFrom_1 6 rfl) (lv_at hl 0 rfl) ?_
    cases sm hF
    exact mr_lret X hr hlk hH ⟨rfl, rfl⟩ (dk DX9_walksFrom_1 7 rfl)
  · replace hF := if_t hF c28
    refine lv_aload_n X.x X.b (dk DX9_walksFrom_0 42 rfl) rfl (lv_at hl 0 rfl) ?_
    refine lv_aload_n X.x X.b (dk DX9_walksFrom_0 43 rfl) rfl (lv_at hl 1 rfl) ?_
    obtain ⟨x38, e39, hF⟩ := bd hF
    refine mr_cv0 hH ⟨rfl, rfl⟩ (mr_runV (As := [.ref (q1 5)]) (rest := []) X hH (c_X9_walkOn hq hq1 ha e39) ((oset_at hq (Nat.le_refl _) ohas_N).trans (congrArg some ocell_N)) OX9.1 kM_X9_43 kI_X9_walkOn kS_X9_walkOn kN_X9 kC_X9_walkOn hd_X9_walkOn ⟨Nat.le_of_ble_eq_true rfl, Nat.le_of_ble_eq_true rfl⟩ rfl hl.1 (Nat.le_of_ble_eq_true rfl) (dk DX9_walksFrom_0 44 rfl) ⟨Nat.zero_le _, Nat.zero_le _⟩) (fun h1 H locs hp hH => ?_)
    rw [hp] at hH; clear hp
    refine lv_lconst (v := 0) X.x X.b (dk DX9_walksFrom_0 45 rfl) (by decide) ?_
    refine lv_lstore (lv' := [(4, .long 0), (0, .ref (q 7)), (1, .ref (q1 5)), (3, .int a2)]) X.x X.b (dk DX9_walksFrom_0 46 rfl) hl (by decide) rfl (fun ls hl => ?_)
    replace hl : lv_has ls 7 [(0, .ref (q 7)), (4, .long 0)] := lv_sub hl [1, 0] rfl
    refine lv_iconst (v := 0) X.x X.b (dk DX9_walksFrom_0 47 rfl) (by decide) ?_
    refine lv_istore (lv' := [(6, .int 0), (0, .ref (q 7)), (4, .long 0)]) X.x X.b (dk DX9_walksFrom_0 48 rfl) hl (by decide) rfl (fun ls hl => ?_)
    replace hl : lv_has ls 7 [(0, .ref (q 7)), (4, .long 0), (6, .int 0)] := lv_sub hl [1, 2, 0] rfl
    obtain ⟨x41, e42, hF⟩ := bd hF
    replace hl : lv_has ls 7 [(0, .ref (q 7)), (4, .long 0), (6, .int 0)] := lv_sub hl [0, 1, 2] rfl
    refine w_X9_walksFrom_89 hq hq1 ha X x38 st1 _ _ e42 _ _ _ hH hl (fun H locs ls hH hl => ?_)
    refine lv_lload X.x X.b (dk DX9_walksFrom_1 6 rfl) (lv_at hl 0 rfl) ?_
    cases sm hF
    exact mr_lret X hr hlk hH ⟨rfl, rfl⟩ (dk DX9_walksFrom_1 7 rfl)
