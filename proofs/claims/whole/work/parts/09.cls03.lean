-- X4_bringUp
abbrev rm_X4_bringUp : Room := { frames := 0, cells := 0, slots := 0, locals := 0 }
theorem hd_X4_bringUp : mHd yX4_bringUp 3 := ⟨by decide +kernel, by decide +kernel, by decide +kernel⟩
theorem DX4_bringUp_0 : ∀ t ∈ ([(0, .iload_n 2, 1), (1, .istore 4, 2), (3, .iload 4, 2), (5, .aload_n 1, 1), (6, .getfield 48, 3), (9, .if_icmp .ge 103, 3), (12, .iload 4, 2), (14, .bipush 64, 2), (16, .if_icmp .ge 96, 3), (19, .aload_n 0, 1), (20, .getfield 13, 3), (23, .iload 4, 2), (25, .bipush 64, 2), (27, .imul, 1), (28, .iload_n 3, 1), (29, .iadd, 1), (30, .iaload, 1), (31, .ifCond .eq 75, 3), (34, .iconst 0, 1), (35, .istore 5, 2), (37, .iload 5, 2), (39, .bipush 64, 2), (41, .if_icmp .ge 63, 3), (44, .aload_n 0, 1), (45, .getfield 13, 3), (48, .iload 4, 2), (50, .bipush 64, 2), (52, .imul, 1), (53, .iload 5, 2), (55, .iadd, 1), (56, .iaload, 1), (57, .istore 6, 2), (59, .aload_n 0, 1), (60, .getfield 13, 3), (63, .iload 4, 2), (65, .bipush 64, 2), (67, .imul, 1), (68, .iload 5, 2), (70, .iadd, 1), (71, .aload_n 0, 1), (72, .getfield 13, 3), (75, .iload_n 2, 1), (76, .bipush 64, 2), (78, .imul, 1), (79, .iload 5, 2), (81, .iadd, 1), (82, .iaload, 1), (83, .iastore, 1), (84, .aload_n 0, 1), (85, .getfield 13, 3), (88, .iload_n 2, 1), (89, .bipush 64, 2), (91, .imul, 1), (92, .iload 5, 2), (94, .iadd, 1), (95, .iload 6, 2), (97, .iastore, 1), (98, .iinc 5 1, 3), (101, .goto (-64), 3), (104, .iconst 1, 1)] : List (Nat × Instr × Nat)), decode cX4_bringUp t.1 = .ok (t.2.1, t.2.2) := by decide +kernel
theorem DX4_bringUp_1 : ∀ t ∈ ([(105, .ireturn, 1), (106, .iinc 4 1, 3), (109, .goto (-106), 3), (112, .iconst 0, 1), (113, .ireturn, 1)] : List (Nat × Instr × Nat)), decode cX4_bringUp t.1 = .ok (t.2.1, t.2.2) := by decide +kernel
noncomputable def f_X4_bringUp_3 (s_t : OS) (s_o1 : OS) (b2 : Int32) (b3 : Int32) : Int32 → Option ((Int32) ⊕ (Nat × Int32)) := fun b4 => (if (s_o1.1 1) ≤ b4 then some (.inr ((1, b4))) else (if 64 ≤ b4 then some (.inr ((1, b4))) else if inb ((b4 * 64) + b3) 4096 = true then (if (s_t.2.2.1 0 ((b4 * 64) + b3 : Int32).toNatClampNeg) = 0 then bnd (b4 + 1 : Int32) (fun v5 => some (.inl v5)) else some (.inr ((0, b4)))) else none))
noncomputable def f_X4_bringUp_37 (s_o1 : OS) (b2 : Int32) (b4 : Int32) : (OS × Int32) → Option ((OS × Int32) ⊕ (OS)) := fun z => match z with | (s_t, b5) => (if 64 ≤ b5 then some (.inr s_t) else if inb ((b4 * 64) + b5) 4096 = true then bnd (s_t.2.2.1 0 ((b4 * 64) + b5 : Int32).toNatClampNeg : Int32) (fun v13 => if inb ((b2 * 64) + b5) 4096 = true then bnd (oA s_t 0 (upd (s_t.2.2.1 0) ((b4 * 64) + b5 : Int32).toNatClampNeg (s_t.2.2.1 0 ((b2 * 64) + b5 : Int32).toNatClampNeg))) (fun t16 => bnd (oA t16 0 (upd (t16.2.2.1 0) ((b2 * 64) + b5 : Int32).toNatClampNeg v13)) (fun t18 => bnd (b5 + 1 : Int32) (fun v20 => some (.inl ((t18, v20)))))) else none) else none)
noncomputable def f_X4_bringUp (st : OS) (st1 : OS) (a1 : Int32) (a2 : Int32) : Option (Int32 × OS) := (lpv (f_X4_bringUp_3 st st1 a1 a2) a1).bind (fun x7 => match x7 with | (k10, v9) => (if k10 = 0 then (lpv (f_X4_bringUp_37 st1 a1 v9) ((st, 0))).bind (fun x22 => some ((1, x22))) else some ((0, st))))
set_option maxHeartbeats 4000000 in
set_option maxRecDepth 100000 in
theorem w_X4_bringUp_3 {p : Program} {l : Launch} {e : Env} {s : State} {m : MethodId} {args : Array Value} {below : List Frame} {meth : Method} {c : Code} {Q : State → Prop} {G : mG} {h : mM} {q : Nat → Nat} {q1 : Nat → Nat} (hq : oinj LX4 q) (hq1 : oinj LX10 q1) (ha : oap [(LX4, q), (LX10, q1)]) (X : mX G p m c cX4_bringUp 7 s args RX4) (s_t : OS) (s_o1 : OS) (b2 : Int32) (b3 : Int32) : ∀ (z : Int32) (r : Nat × Int32), lpv (f_X4_bringUp_3 s_t s_o1 b2 b3) z = some r → ∀ (H : Heap) (locs : List Loc) (ls : Array Slot), mH G (oset LX4 G q s_t (oset LX10 G q1 s_o1 h)) s.heap H locs → lv_has ls 7 [(0, .ref (q 3)), (1, .ref (q1 5)), (2, .int b2), (3, .int b3), (4, .int z)] → (r.1 = 0 → ∀ (H : Heap) (locs : List Loc) (ls : Array Slot), mH G (oset LX4 G q s_t (oset LX10 G q1 s_o1 h)) s.heap H locs → lv_has ls 7 [(0, .ref (q 3)), (2, .int b2), (4, .int r.2)] → W p l e rm_X4_bringUp s m args below meth c H locs 0 0 Q (F0 m 34 ls [])) → (r.1 = 1 → ∀ (H : Heap) (locs : List Loc) (ls : Array Slot), mH G (oset LX4 G q s_t (oset LX10 G q1 s_o1 h)) s.heap H locs → lv_has ls 7 [] → W p l e rm_X4_bringUp s m args below meth c H locs 0 0 Q (F0 m 112 ls [])) → W p l e rm_X4_bringUp s m args below meth c H locs 0 0 Q (F0 m 3 ls []) := by
  refine lpv_rec ?_
  intro z r x hF hx H locs ls hH hl K0 K1
  obtain ⟨b4, hz⟩ : ∃ y, y = z := ⟨_, rfl⟩
  subst hz
  dsimp only [f_X4_bringUp_3] at hF
  refine lv_iload X.x X.b (dk DX4_bringUp_0 2 rfl) (lv_at hl 4 rfl) ?_
  refine lv_aload_n X.x X.b (dk DX4_bringUp_0 3 rfl) rfl (lv_at hl 1 rfl) ?_
  refine og_getIN OX10 X hq1 (mH_perm (l1 := [(LX4, q, s_t), (LX10, q1, s_o1)]) (l2 := [(LX10, q1, s_o1), (LX4, q, s_t)]) ha [1, 0] [1, 0] rfl rfl rfl hH) 1 (by decide) rfl kFN_X4_48 (dk DX4_bringUp_0 4 rfl) ?_
  refine lv_icmp_ge (tgt := 112) X.x X.b (dk DX4_bringUp_0 5 rfl) (by decide) (fun c1 => ?_) (fun c1 => ?_)
  · replace hF := if_t hF c1
    have hr9 := lp_r hF hx
    subst hr9
    exact K1 rfl _ _ _ hH (lv_sub hl [] rfl)
  · replace hF := if_f hF c1
    refine lv_iload X.x X.b (dk DX4_bringUp_0 6 rfl) (lv_at hl 4 rfl) ?_
    refine lv_bipush (v := 64) X.x X.b (dk DX4_bringUp_0 7 rfl) (by decide) ?_
    refine lv_icmp_ge (tgt := 112) X.x X.b (dk DX4_bringUp_0 8 rfl) (by decide) (fun c2 => ?_) (fun c2 => ?_)
    · replace hF := if_t hF c2
      have hr9 := lp_r hF hx
      subst hr9
      exact K1 rfl _ _ _ hH (lv_sub hl [] rfl)
    · replace hF := if_f hF c2
      refine lv_aload_n X.x X.b (dk DX4_bringUp_0 9 rfl) rfl (lv_at hl 0 rfl) ?_
      refine og_getR (t := 0) OX4 X hq hH 0 (by decide) rfl kF_X4_13 (dk DX4_bringUp_0 10 rfl) ?_
      refine lv_iload X.x X.b (dk DX4_bringUp_0 11 rfl) (lv_at hl 4 rfl) ?_
      refine lv_bipush (v := 64) X.x X.b (dk DX4_bringUp_0 12 rfl) (by decide) ?_
      refine lv_imul X.x X.b (dk DX4_bringUp_0 13 rfl) ?_
      refine lv_iload_n X.x X.b (dk DX4_bringUp_0 14 rfl) rfl (lv_at hl 3 rfl) ?_
      refine lv_iadd X.x X.b (dk DX4_bringUp_0 15 rfl) ?_
      obtain ⟨c3, hF⟩ := gd hF
      refine og_iald X hq hH 0 (by decide) rfl (inb_in c3) (dk DX4_bringUp_0 16 rfl) ?_
      refine lv_if_eq (tgt := 106) X.x X.b (dk DX4_bringUp_0 17 rfl) (by decide) (fun c4 => ?_) (fun c4 => ?_)
      · replace hF := if_t hF c4
        obtain ⟨v5, e6⟩ : ∃ y : Int32, y = b4 + 1 := ⟨_, rfl⟩
        replace hF := bnd_e hF e6
        refine lv_iinc (v := v5) (lv' := [(4, .int v5), (0, .ref (q 3)), (1, .ref (q1 5)), (2, .int b2), (3, .int b3)]) X.x X.b (dk DX4_bringUp_1 1 rfl) hl (k := 4) rfl (by rw [e6]; rfl) (by decide) rfl (fun ls hl => ?_)
        replace hl : lv_has ls 7 [(0, .ref (q 3)), (1, .ref (q1 5)), (2, .int b2), (3, .int b3), (4, .int v5)] := lv_sub hl [1, 2, 3, 4, 0] rfl
        refine lv_goto (tgt := 3) X.x X.b (dk DX4_bringUp_1 2 rfl) (by decide) ?_
        exact (lp_l hF hx) _ _ _ hH (lv_sub hl [0, 1, 2, 3, 4] rfl) K0 K1
      · replace hF := if_f hF c4
        have hr9 := lp_r hF hx
        subst hr9
        exact K0 rfl _ _ _ hH (lv_sub hl [0, 2, 4] rfl)
set_option maxHeartbeats 4000000 in
set_option maxRecDepth 100000 in
theorem w_X4_bringUp_37 {p : Program} {l : Launch} {e : Env} {s : State} {m : MethodId} {args : Array Value} {below : List Frame} {meth : Method} {c : Code} {Q : State → Prop} {G : mG} {h : mM} {q : Nat → Nat} {q1 : Nat → Nat} (hq : oinj LX4 q) (hq1 : oinj LX10 q1) (ha : oap [(LX4, q), (LX10, q1)]) (X : mX G p m c cX4_bringUp 7 s args RX4) (s_o1 : OS) (b2 : Int32) (b4 : Int32) : ∀ (z : OS × Int32) (r : OS), lpv (f_X4_bringUp_37 s_o1 b2 b4) z = some r → ∀ (H : Heap) (locs : List Loc) (ls : Array Slot), mH G (oset LX4 G q z.1 (oset LX10 G q1 s_o1 h)) s.heap H locs → lv_has ls 7 [(0, .ref (q 3)), (2, .int b2), (4, .int b4), (5, .int z.2)] → (∀ (H : Heap) (locs : List Loc) (ls : Array Slot), mH G (oset LX4 G q r (oset LX10 G q1 s_o1 h)) s.heap H locs → lv_has ls 7 [] → W p l e rm_X4_bringUp s m args below meth c H locs 0 0 Q (F0 m 104 ls [])) → W p l e rm_X4_bringUp s m args below meth c H locs 0 0 Q (F0 m 37 ls []) := by
  refine lpv_rec ?_
  intro z r x hF hx H locs ls hH hl K0
  obtain ⟨s_t, b5⟩ := z
  dsimp only [f_X4_bringUp_37] at hF
  try dsimp only at hH hl
  refine lv_iload X.x X.b (dk DX4_bringUp_0 20 rfl) (lv_at hl 3 rfl) ?_
  refine lv_bipush (v := 64) X.x X.b (dk DX4_bringUp_0 21 rfl) (by decide) ?_
  refine lv_icmp_ge (tgt := 104) X.x X.b (dk DX4_bringUp_0 22 rfl) (by decide) (fun c11 => ?_) (fun c11 => ?_)
  · replace hF := if_t hF c11
    have hr9 := lp_r hF hx
    subst hr9
    exact K0 _ _ _ hH (lv_sub hl [] rfl)
  · replace hF := if_f hF c11
    refine lv_aload_n X.x X.b (dk DX4_bringUp_0 23 rfl) rfl (lv_at hl 0 rfl) ?_
    refine og_getR (t := 0) OX4 X hq hH 0 (by decide) rfl kF_X4_13 (dk DX4_bringUp_0 24 rfl) ?_
    refine lv_iload X.x X.b (dk DX4_bringUp_0 25 rfl) (lv_at hl 2 rfl) ?_
    refine lv_bipush (v := 64) X.x X.b (dk DX4_bringUp_0 26 rfl) (by decide) ?_
    refine lv_imul X.x X.b (dk DX4_bringUp_0 27 rfl) ?_
    refine lv_iload X.x X.b (dk DX4_bringUp_0 28 rfl) (lv_at hl 3 rfl) ?_
    refine lv_iadd X.x X.b (dk DX4_bringUp_0 29 rfl) ?_
    obtain ⟨c12, hF⟩ := gd hF
    refine og_iald X hq hH 0 (by decide) rfl (inb_in c12) (dk DX4_bringUp_0 30 rfl) ?_
    refine lv_topi (fun v13 e14 => ?_)
    replace hF := bnd_e hF e14
    refine lv_istore (lv' := [(6, .int v13), (0, .ref (q 3)), (2, .int b2), (4, .int b4), (5, .int b5)]) X.x X.b (dk DX4_bringUp_0 31 rfl) hl (by decide) rfl (fun ls hl => ?_)
    replace hl : lv_has ls 7 [(0, .ref (q 3)), (2, .int b2), (4, .int b4), (5, .int b5), (6, .int v13)] := lv_sub hl [1, 2, 3, 4, 0] rfl
    refine lv_aload_n X.x X.b (dk DX4_bringUp_0 32 rfl) rfl (lv_at hl 0 rfl) ?_
    refine og_getR (t := 0) OX4 X hq hH 0 (by decide) rfl kF_X4_13 (dk DX4_bringUp_0 33 rfl) ?_
    refine lv_iload X.x X.b (dk DX4_bringUp_0 34 rfl) (lv_at hl 2 rfl) ?_
    refine lv_bipush (v := 64) X.x X.b (dk DX4_bringUp_0 35 rfl) (by decide) ?_
    refine lv_imul X.x X.b (dk DX4_bringUp_0 36 rfl) ?_
    refine lv_iload X.x X.b (dk DX4_bringUp_0 37 rfl) (lv_at hl 3 rfl) ?_
    refine lv_iadd X.x X.b (dk DX4_bringUp_0 38 rfl) ?_
    refine lv_aload_n X.x X.b (dk DX4_bringUp_0 39 rfl) rfl (lv_at hl 0 rfl) ?_
    refine og_getR (t := 0) OX4 X hq hH 0 (by decide) rfl kF_X4_13 (dk DX4_bringUp_0 40 rfl) ?_
    refine lv_iload_n X.x X.b (dk DX4_bringUp_0 41 rfl) rfl (lv_at hl 1 rfl) ?_
    refine lv_bipush (v := 64) X.x X.b (dk DX4_bringUp_0 42 rfl) (by decide) ?_
    refine lv_imul X.x X.b (dk DX4_bringUp_0 43 rfl) ?_
    refine lv_iload X.x X.b (dk DX4_bringUp_0 44 rfl) (lv_at hl 3 rfl) ?_
    refine lv_iadd X.x X.b (dk DX4_bringUp_0 45 rfl) ?_
    obtain ⟨c15, hF⟩ := gd hF
    refine og_iald X hq hH 0 (by decide) rfl (inb_in c15) (dk DX4_bringUp_0 46 rfl) ?_
    refine og_iast X hq hH 0 (by decide) rfl (inb_in c12) (dk DX4_bringUp_0 47 rfl) (fun H locs hH => ?_)
    obtain ⟨t16, e17⟩ : ∃ y, y = oA s_t 0 (upd (s_t.2.2.1 0) ((b4 * 64) + b5 : Int32).toNatClampNeg (s_t.2.2.1 0 ((b2 * 64) + b5 : Int32).toNatClampNeg)) := ⟨_, rfl⟩
    rw [← e17] at hH
    replace hF := bnd_e hF e17
    refine lv_aload_n X.x X.b (dk DX4_bringUp_0 48 rfl) rfl (lv_at hl 0 rfl) ?_
    refine og_getR (t := 0) OX4 X hq hH 0 (by decide) rfl kF_X4_13 (dk DX4_bringUp_0 49 rfl) ?_
    refine lv_iload_n X.x X.b (dk DX4_bringUp_0 50 rfl) rfl (lv_at hl 1 rfl) ?_
    refine lv_bipush (v := 64) X.x X.b (dk DX4_bringUp_0 51 rfl) (by decide) ?_
    refine lv_imul X.x X.b (dk DX4_bringUp_0 52 rfl) ?_
    refine lv_iload X.x X.b (dk DX4_bringUp_0 53 rfl) (lv_at hl 3 rfl) ?_
    refine lv_iadd X.x X.b (dk DX4_bringUp_0 54 rfl) ?_
    refine lv_iload X.x X.b (dk DX4_bringUp_0 55 rfl) (lv_at hl 4 rfl) ?_
    refine og_iast X hq hH 0 (by decide) rfl (inb_in c15) (dk DX4_bringUp_0 56 rfl) (fun H locs hH => ?_)
    obtain ⟨t18, e19⟩ : ∃ y, y = oA t16 0 (upd (t16.2.2.1 0) ((b2 * 64) + b5 : Int32).toNatClampNeg v13) := ⟨_, rfl⟩
    rw [← e19] at hH
    replace hF := bnd_e hF e19
    obtain ⟨v20, e21⟩ : ∃ y : Int32, y = b5 + 1 := ⟨_, rfl⟩
    replace hF := bnd_e hF e21
    refine lv_iinc (v := v20) (lv' := [(5, .int v20), (0, .ref (q 3)), (2, .int b2), (4, .int b4), (6, .int v13)]) X.x X.b (dk DX4_bringUp_0 57 rfl) hl (k := 3) rfl (by rw [e21]; rfl) (by decide) rfl (fun ls hl => ?_)
    replace hl : lv_has ls 7 [(0, .ref (q 3)), (2, .int b2), (4, .int b4), (5, .int v20)] := lv_sub hl [1, 2, 3, 0] rfl
    refine lv_goto (tgt := 37) X.x X.b (dk DX4_bringUp_0 58 rfl) (by decide) ?_
    exact (lp_l hF hx) _ _ _ hH (lv_sub hl [0, 1, 2, 3] rfl) K0
set_option maxHeartbeats 4000000 in
set_option maxRecDepth 100000 in
theorem c_X4_bringUp {l : Launch} {G : mG} {h : mM} {q : Nat → Nat} {q1 : Nat → Nat} (hq : oinj LX4 q) (hq1 : oinj LX10 q1) (ha : oap [(LX4, q), (LX10, q1)]) {st : OS} {st1 : OS} {a1 : Int32} {a2 : Int32} {x : Int32 × OS} (hF : f_X4_bringUp st st1 a1 a2 = some x) : cQ l G yX4_bringUp cX4_bringUp 7 (some FieldType.boolean) rm_X4_bringUp [.ref (q 3), .ref (q1 5), .int a1, .int a2] (oset LX4 G q st (oset LX10 G q1 st1 h)) (mQi G (fun r h1 => r = x.1 ∧ h1 = oset LX4 G q x.2 (oset LX10 G q1 st1 h))) := by
  refine mp_of (by decide +kernel) (Nat.le_of_ble_eq_true rfl) ?_
  intro p e s m below meth c X hr hlk hH hname ls hl
  dsimp only [f_X4_bringUp] at hF
  replace hl : lv_has ls 7 [(0, .ref (q 3)), (1, .ref (q1 5)), (2, .int a1), (3, .int a2)] := hl
  refine lv_iload_n X.x X.b (dk DX4_bringUp_0 0 rfl) rfl (lv_at hl 2 rfl) ?_
  refine lv_istore (lv' := [(4, .int a1), (0, .ref (q 3)), (1, .ref (q1 5)), (2, .int a1), (3, .int a2)]) X.x X.b (dk DX4_bringUp_0 1 rfl) hl (by decide) rfl (fun ls hl => ?_)
  replace hl : lv_has ls 7 [(0, .ref (q 3)), (1, .ref (q1 5)), (2, .int a1), (3, .int a2), (4, .int a1)] := lv_sub hl [1, 2, 3, 4, 0] rfl
  obtain ⟨x7, e8, hF⟩ := bd hF
  replace hl : lv_has ls 7 [(0, .ref (q 3)), (1, .ref (q1 5)), (2, .int a1), (3, .int a2), (4, .int a1)] := lv_sub hl [0, 1, 2, 3, 4] rfl
  obtain ⟨k10, v9⟩ := x7
  try dsimp only at hF
  refine w_X4_bringUp_3 hq hq1 ha X st st1 a1 a2 _ _ e8 _ _ _ hH hl (fun hk H locs ls hH hl => ?_) (fun hk H locs ls hH hl => ?_)
  · try dsimp only at hH hl
    try dsimp only at hk
    subst hk
    replace hF := if_t hF rfl
    refine lv_iconst (v := 0) X.x X.b (dk DX4_bringUp_0 18 rfl) (by decide) ?_
    refine lv_istore (lv' := [(5, .int 0), (0, .ref (q 3)), (2, .int a1), (4, .int v9)]) X.x X.b (dk DX4_bringUp_0 19 rfl) hl (by decide) rfl (fun ls hl => ?_)
    replace hl : lv_has ls 7 [(0, .ref (q 3)), (2, .int a1), (4, .int v9), (5, .int 0)] := lv_sub hl [1, 2, 3, 0] rfl
    obtain ⟨x22, e23, hF⟩ := bd hF
    replace hl : lv_has ls 7 [(0, .ref (q 3)), (2, .int a1), (4, .int v9), (5, .int 0)] := lv_sub hl [0, 1, 2, 3] rfl
    refine w_X4_bringUp_37 hq hq1 ha X st1 a1 v9 _ _ e23 _ _ _ hH hl (fun H locs ls hH hl => ?_)
    refine lv_iconst (v := 1) X.x X.b (dk DX4_bringUp_0 59 rfl) (by decide) ?_
    cases sm hF
    exact mr_zret X hr hlk hH rfl ⟨rfl, rfl⟩ (dk DX4_bringUp_1 0 rfl)
  · try dsimp only at hH hl
    try dsimp only at hk
    subst hk
    replace hF := if_f hF (by decide)
    refine lv_iconst (v := 0) X.x X.b (dk DX4_bringUp_1 3 rfl) (by decide) ?_
    cases sm hF
    exact mr_zret X hr hlk hH rfl ⟨rfl, rfl⟩ (dk DX4_bringUp_1 4 rfl)
-- J9_floorMod_7cf53
abbrev rm_J9_floorMod_7cf53 : Room := { frames := 0, cells := 0, slots := 0, locals := 0 }
theorem hd_J9_floorMod_7cf53 : mHd yJ9_floorMod_7cf53 2 := ⟨by decide +kernel, by decide +kernel, by decide +kernel⟩
theorem DJ9_floorMod_7cf53_0 : ∀ t ∈ ([(0, .iload_n 0, 1), (1, .iload_n 1, 1), (2, .irem, 1), (3, .istore_n 2, 1), (4, .iload_n 0, 1), (5, .iload_n 1, 1), (6, .ixor, 1), (7, .ifCond .ge 11, 3), (10, .iload_n 2, 1), (11, .ifCond .eq 7, 3), (14, .iload_n 2, 1), (15, .iload_n 1, 1), (16, .iadd, 1), (17, .ireturn, 1), (18, .iload_n 2, 1), (19, .ireturn, 1)] : List (Nat × Instr × Nat)), decode cJ9_floorMod_7cf53 t.1 = .ok (t.2.1, t.2.2) := by decide +kernel
noncomputable def f_J9_floorMod_7cf53 (a0 : Int32) (a1 : Int32) : Option (Int32) := if a1 = 0 then none else bnd (a0 - a0 / a1 * a1 : Int32) (fun v2 => (if 0 ≤ (a0 ^^^ a1) then some v2 else (if v2 = 0 then some v2 else some (v2 + a1))))
set_option maxHeartbeats 4000000 in
set_option maxRecDepth 100000 in
theorem c_J9_floorMod_7cf53 {l : Launch} {G : mG} {h : mM}  {a0 : Int32} {a1 : Int32} {x : Int32} (hF : f_J9_floorMod_7cf53 a0 a1 = some x) : cQ l G yJ9_floorMod_7cf53 cJ9_floorMod_7cf53 3 (some FieldType.int) rm_J9_floorMod_7cf53 [.int a0, .int a1] (h) (mQi G (fun r h1 => r = x ∧ h1 = h)) := by
  refine mp_of (by decide +kernel) (Nat.le_of_ble_eq_true rfl) ?_
  intro p e s m below meth c X hr hlk hH hname ls hl
  dsimp only [f_J9_floorMod_7cf53] at hF
  replace hl : lv_has ls 3 [(0, .int a0), (1, .int a1)] := hl
  refine lv_iload_n X.x X.b (dk DJ9_floorMod_7cf53_0 0 rfl) rfl (lv_at hl 0 rfl) ?_
  refine lv_iload_n X.x X.b (dk DJ9_floorMod_7cf53_0 1 rfl) rfl (lv_at hl 1 rfl) ?_
  obtain ⟨c1, hF⟩ := gn hF
  refine lv_irem X.x X.b (dk DJ9_floorMod_7cf53_0 2 rfl) c1 ?_
  refine lv_topi (fun v2 e3 => ?_)
  replace hF := bnd_e hF e3
  refine lv_istore_n (lv' := [(2, .int v2), (0, .int a0), (1, .int a1)]) X.x X.b (dk DJ9_floorMod_7cf53_0 3 rfl) rfl hl (by decide) rfl (fun ls hl => ?_)
  replace hl : lv_has ls 3 [(0, .int a0), (1, .int a1), (2, .int v2)] := lv_sub hl [1, 2, 0] rfl
  refine lv_iload_n X.x X.b (dk DJ9_floorMod_7cf53_0 4 rfl) rfl (lv_at hl 0 rfl) ?_
  refine lv_iload_n X.x X.b (dk DJ9_floorMod_7cf53_0 5 rfl) rfl (lv_at hl 1 rfl) ?_
  refine lv_ixor X.x X.b (dk DJ9_floorMod_7cf53_0 6 rfl) ?_
  refine lv_if_ge (tgt := 18) X.x X.b (dk DJ9_floorMod_7cf53_0 7 rfl) (by decide) (fun c4 => ?_) (fun c4 => ?_)
  · replace hF := if_t hF c4
    refine lv_iload_n X.x X.b (dk DJ9_floorMod_7cf53_0 14 rfl) rfl (lv_at hl 2 rfl) ?_
    cases sm hF
    exact mr_iret X hr hlk hH ⟨rfl, rfl⟩ (dk DJ9_floorMod_7cf53_0 15 rfl)
  · replace hF := if_f hF c4
    refine lv_iload_n X.x X.b (dk DJ9_floorMod_7cf53_0 8 rfl) rfl (lv_at hl 2 rfl) ?_
    refine lv_if_eq (tgt := 18) X.x X.b (dk DJ9_floorMod_7cf53_0 9 rfl) (by decide) (fun c5 => ?_) (fun c5 => ?_)
    · replace hF := if_t hF c5
      refine lv_iload_n X.x X.b (dk DJ9_floorMod_7cf53_0 14 rfl) rfl (lv_at hl 2 rfl) ?_
      cases sm hF
      exact mr_iret X hr hlk hH ⟨rfl, rfl⟩ (dk DJ9_floorMod_7cf53_0 15 rfl)
    · replace hF := if_f hF c5
      refine lv_iload_n X.x X.b (dk DJ9_floorMod_7cf53_0 10 rfl) rfl (lv_at hl 2 rfl) ?_
      refine lv_iload_n X.x X.b (dk DJ9_floorMod_7cf53_0 11 rfl) rfl (lv_at hl 1 rfl) ?_
      refine lv_iadd X.x X.b (dk DJ9_floorMod_7cf53_0 12 rfl) ?_
      cases sm hF
      exact mr_iret X hr hlk hH ⟨rfl, rfl⟩ (dk DJ9_floorMod_7cf53_0 13 rfl)
-- X4_clearBelow
abbrev rm_X4_clearBelow : Room := { frames := 1, cells := 0, slots := 0, locals := 22 }
theorem hd_X4_clearBelow : mHd yX4_clearBelow 4 := ⟨by decide +kernel, by decide +kernel, by decide +kernel⟩
theorem DX4_clearBelow_0 : ∀ t ∈ ([(0, .aload_n 0, 1), (1, .getfield 13, 3), (4, .iload_n 2, 1), (5, .bipush 64, 2), (7, .imul, 1), (8, .iload_n 3, 1), (9, .iadd, 1), (10, .iaload, 1), (11, .istore 5, 2), (13, .iload_n 2, 1), (14, .iconst 1, 1), (15, .iadd, 1), (16, .istore 6, 2), (18, .iload 6, 2), (20, .aload_n 1, 1), (21, .getfield 48, 3), (24, .if_icmp .ge 105, 3), (27, .iload 6, 2), (29, .bipush 64, 2), (31, .if_icmp .ge 98, 3), (34, .aload_n 0, 1), (35, .getfield 13, 3), (38, .iload 6, 2), (40, .bipush 64, 2), (42, .imul, 1), (43, .iload_n 3, 1), (44, .iadd, 1), (45, .iaload, 1), (46, .istore 7, 2), (48, .iload 7, 2), (50, .ifCond .eq 73, 3), (53, .iload_n 3, 1), (54, .istore 8, 2), (56, .iload 8, 2), (58, .bipush 64, 2), (60, .if_icmp .ge 63, 3), (63, .iload 5, 2), (65, .aload_n 0, 1), (66, .getfield 13, 3), (69, .iload 6, 2), (71, .bipush 64, 2), (73, .imul, 1), (74, .iload 8, 2), (76, .iadd, 1), (77, .iaload, 1), (78, .imul, 1), (79, .iload 7, 2), (81, .aload_n 0, 1), (82, .getfield 13, 3), (85, .iload_n 2, 1), (86, .bipush 64, 2), (88, .imul, 1), (89, .iload 8, 2), (91, .iadd, 1), (92, .iaload, 1), (93, .imul, 1), (94, .isub, 1), (95, .istore 9, 2), (97, .aload_n 0, 1), (98, .getfield 13, 3)] : List (Nat × Instr × Nat)), decode cX4_clearBelow t.1 = .ok (t.2.1, t.2.2) := by decide +kernel
theorem DX4_clearBelow_1 : ∀ t ∈ ([(101, .iload 6, 2), (103, .bipush 64, 2), (105, .imul, 1), (106, .iload 8, 2), (108, .iadd, 1), (109, .iload 9, 2), (111, .iload 4, 2), (113, .invokestatic 51, 3), (116, .iastore, 1), (117, .iinc 8 1, 3), (120, .goto (-64), 3), (123, .iinc 6 1, 3), (126, .goto (-108), 3), (129, .return_, 1)] : List (Nat × Instr × Nat)), decode cX4_clearBelow t.1 = .ok (t.2.1, t.2.2) := by decide +kernel
noncomputable def f_X4_clearBelow_56 (s_o1 : OS) (b2 : Int32) (b3 : Int32) (b4 : Int32) (b5 : Int32) (b6 : Int32) (b7 : Int32) : (OS × Int32) → Option ((OS × Int32) ⊕ (OS)) := fun z => match z with | (s_t, b8) => (if 64 ≤ b8 then some (.inr s_t) else if inb ((b6 * 64) + b8) 4096 = true then if inb ((b2 * 64) + b8) 4096 = true then bnd ((b5 * (s_t.2.2.1 0 ((b6 * 64) + b8 : Int32).toNatClampNeg)) - (b7 * (s_t.2.2.1 0 ((b2 * 64) + b8 : Int32).toNatClampNeg)) : Int32) (fun v17 => (f_J9_floorMod_7cf53 v17 b4).bind (fun x19 => bnd (oA s_t 0 (upd (s_t.2.2.1 0) ((b6 * 64) + b8 : Int32).toNatClampNeg x19)) (fun t22 => bnd (b8 + 1 : Int32) (fun v24 => some (.inl ((t22, v24))))))) else none else none)
noncomputable def f_X4_clearBelow_18 (s_o1 : OS) (b2 : Int32) (b3 : Int32) (b4 : Int32) (b5 : Int32) : (OS × Int32) → Option ((OS × Int32) ⊕ (OS)) := fun z => match z with | (s_t, b6) => (if (s_o1.1 1) ≤ b6 then some (.inr s_t) else (if 64 ≤ b6 then some (.inr s_t) else if inb ((b6 * 64) + b3) 4096 = true then bnd (s_t.2.2.1 0 ((b6 * 64) + b3 : Int32).toNatClampNeg : Int32) (fun v9 => (if v9 = 0 then bnd (b6 + 1 : Int32) (fun v12 => some (.inl ((s_t, v12)))) else (lpv (f_X4_clearBelow_56 s_o1 b2 b3 b4 b5 b6 v9) ((s_t, b3))).bind (fun x26 => bnd (b6 + 1 : Int32) (fun v29 => some (.inl ((x26, v29))))))) else none))
noncomputable def f_X4_clearBelow (st : OS) (st1 : OS) (a1 : Int32) (a2 : Int32) (a3 : Int32) : Option (OS) := if inb ((a1 * 64) + a2) 4096 = true then bnd (st.2.2.1 0 ((a1 * 64) + a2 : Int32).toNatClampNeg : Int32) (fun v2 => bnd (a1 + 1 : Int32) (fun v4 => (lpv (f_X4_clearBelow_18 st1 a1 a2 a3 v2) ((st, v4))).bind (fun x31 => some x31))) else none
set_option maxHeartbeats 4000000 in
set_option maxRecDepth 100000 in
theorem w_X4_clearBelow_56 {p : Program} {l : Launch} {e : Env} {s : State} {m : MethodId} {args : Array Value} {below : List Frame} {meth : Method} {c : Code} {Q : State → Prop} {G : mG} {h : mM} {q : Nat → Nat} {q1 : Nat → Nat} (hq : oinj LX4 q) (hq1 : oinj LX10 q1) (ha : oap [(LX4, q), (LX10, q1)]) (X : mX G p m c cX4_clearBelow 10 s args RX4) (s_o1 : OS) (b2 : Int32) (b3 : Int32) (b4 : Int32) (b5 : Int32) (b6 : Int32) (b7 : Int32) : ∀ (z : OS × Int32) (r : OS), lpv (f_X4_clearBelow_56 s_o1 b2 b3 b4 b5 b6 b7) z = some r → ∀ (H : Heap) (locs : List Loc) (ls : Array Slot), mH G (oset LX4 G q z.1 (oset LX10 G q1 s_o1 h)) s.heap H locs → lv_has ls 10 [(0, .ref (q 3)), (1, .ref (q1 5)), (2, .int b2), (3, .int b3), (4, .int b4), (5, .int b5), (6, .int b6), (7, .int b7), (8, .int z.2)] → (∀ (H : Heap) (locs : List Loc) (ls : Array Slot), mH G (oset LX4 G q r (oset LX10 G q1 s_o1 h)) s.heap H locs → lv_has ls 10 [(0, .ref (q 3)), (1, .ref (q1 5)), (2, .int b2), (3, .int b3), (4, .int b4), (5, .int b5), (6, .int b6)] → W p l e rm_X4_clearBelow s m args below meth c H locs 0 0 Q (F0 m 123 ls [])) → W p l e rm_X4_clearBelow s m args below meth c H locs 0 0 Q (F0 m 56 ls []) := by
  refine lpv_rec ?_
  intro z r x hF hx H locs ls hH hl K0
  obtain ⟨s_t, b8⟩ := z
  dsimp only [f_X4_clearBelow_56] at hF
  try dsimp only at hH hl
  refine lv_iload X.x X.b (dk DX4_clearBelow_0 33 rfl) (lv_at hl 8 rfl) ?_
  refine lv_bipush (v := 64) X.x X.b (dk DX4_clearBelow_0 34 rfl) (by decide) ?_
  refine lv_icmp_ge (tgt := 123) X.x X.b (dk DX4_clearBelow_0 35 rfl) (by decide) (fun c14 => ?_) (fun c14 => ?_)
  · replace hF := if_t hF c14
    have hr9 := lp_r hF hx
    subst hr9
    exact K0 _ _ _ hH (lv_sub hl [0, 1, 2, 3, 4, 5, 6] rfl)
  · replace hF := if_f hF c14
    refine lv_iload X.x X.b (dk DX4_clearBelow_0 36 rfl) (lv_at hl 5 rfl) ?_
    refine lv_aload_n X.x X.b (dk DX4_clearBelow_0 37 rfl) rfl (lv_at hl 0 rfl) ?_
    refine og_getR (t := 0) OX4 X hq hH 0 (by decide) rfl kF_X4_13 (dk DX4_clearBelow_0 38 rfl) ?_
    refine lv_iload X.x X.b (dk DX4_clearBelow_0 39 rfl) (lv_at hl 6 rfl) ?_
    refine lv_bipush (v := 64) X.x X.b (dk DX4_clearBelow_0 40 rfl) (by decide) ?_
    refine lv_imul X.x X.b (dk DX4_clearBelow_0 41 rfl) ?_
    refine lv_iload X.x X.b (dk DX4_clearBelow_0 42 rfl) (lv_at hl 8 rfl) ?_
    refine lv_iadd X.x X.b (dk DX4_clearBelow_0 43 rfl) ?_
    obtain ⟨c15, hF⟩ := gd hF
    refine og_iald X hq hH 0 (by decide) rfl (inb_in c15) (dk DX4_clearBelow_0 44 rfl) ?_
    refine lv_imul X.x X.b (dk DX4_clearBelow_0 45 rfl) ?_
    refine lv_iload X.x X.b (dk DX4_clearBelow_0 46 rfl) (lv_at hl 7 rfl) ?_
    refine lv_aload_n X.x X.b (dk DX4_clearBelow_0 47 rfl) rfl (lv_at hl 0 rfl) ?_
    refine og_getR (t := 0) OX4 X hq hH 0 (by decide) rfl kF_X4_13 (dk DX4_clearBelow_0 48 rfl) ?_
    refine lv_iload_n X.x X.b (dk DX4_clearBelow_0 49 rfl) rfl (lv_at hl 2 rfl) ?_
    refine lv_bipush (v := 64) X.x X.b (dk DX4_clearBelow_0 50 rfl) (by decide) ?_
    refine lv_imul X.x X.b (dk DX4_clearBelow_0 51 rfl) ?_
    refine lv_iload X.x X.b (dk DX4_clearBelow_0 52 rfl) (lv_at hl 8 rfl) ?_
    refine lv_iadd X.x X.b (dk DX4_clearBelow_0 53 rfl) ?_
    obtain ⟨c16, hF⟩ := gd hF
    refine og_iald X hq hH 0 (by decide) rfl (inb_in c16) (dk DX4_clearBelow_0 54 rfl) ?_
    refine lv_imul X.x X.b (dk DX4_clearBelow_0 55 rfl) ?_
    refine lv_isub X.x X.b (dk DX4_clearBelow_0 56 rfl) ?_
    refine lv_topi (fun v17 e18 => ?_)
    replace hF := bnd_e hF e18
    refine lv_istore (lv' := [(9, .int v17), (0, .ref (q 3)), (1, .ref (q1 5)), (2, .int b2), (3, .int b3), (4, .int b4), (5, .int b5), (6, .int b6), (7, .int b7), (8, .int b8)]) X.x X.b (dk DX4_clearBelow_0 57 rfl) hl (by decide) rfl (fun ls hl => ?_)
    replace hl : lv_has ls 10 [(0, .ref (q 3)), (1, .ref (q1 5)), (2, .int b2), (3, .int b3), (4, .int b4), (5, .int b5), (6, .int b6), (7, .int b7), (8, .int b8), (9, .int v17)] := lv_sub hl [1, 2, 3, 4, 5, 6, 7, 8, 9, 0] rfl
    refine lv_aload_n X.x X.b (dk DX4_clearBelow_0 58 rfl) rfl (lv_at hl 0 rfl) ?_
    refine og_getR (t := 0) OX4 X hq hH 0 (by decide) rfl kF_X4_13 (dk DX4_clearBelow_0 59 rfl) ?_
    refine lv_iload X.x X.b (dk DX4_clearBelow_1 0 rfl) (lv_at hl 6 rfl) ?_
    refine lv_bipush (v := 64) X.x X.b (dk DX4_clearBelow_1 1 rfl) (by decide) ?_
    refine lv_imul X.x X.b (dk DX4_clearBelow_1 2 rfl) ?_
    refine lv_iload X.x X.b (dk DX4_clearBelow_1 3 rfl) (lv_at hl 8 rfl) ?_
    refine lv_iadd X.x X.b (dk DX4_clearBelow_1 4 rfl) ?_
    refine lv_iload X.x X.b (dk DX4_clearBelow_1 5 rfl) (lv_at hl 9 rfl) ?_
    refine lv_iload X.x X.b (dk DX4_clearBelow_1 6 rfl) (lv_at hl 4 rfl) ?_
    obtain ⟨x19, e20, hF⟩ := bd hF
    refine mr_ci0 hH ⟨rfl, rfl⟩ (mr_runS (As := [.int v17, .int b4]) (rest := [.int ((b6 * 64) + b8), .ref (q 0)]) X hH (c_J9_floorMod_7cf53 e20) kM_X4_51 kT_J9_floorMod_7cf53 kN_J9 kC_J9_floorMod_7cf53 hd_J9_floorMod_7cf53 ⟨Nat.le_of_ble_eq_true rfl, Nat.le_of_ble_eq_true rfl⟩ rfl hl.1 (Nat.le_of_ble_eq_true rfl) (dk DX4_clearBelow_1 7 rfl) ⟨Nat.zero_le _, Nat.zero_le _⟩) (fun r h1 H locs hp hH => ?_)
    obtain ⟨hr1, hr2⟩ := hp; rw [hr1]; rw [hr2] at hH; clear hr1 hr2
    refine og_iast X hq hH 0 (by decide) rfl (inb_in c15) (dk DX4_clearBelow_1 8 rfl) (fun H locs hH => ?_)
    obtain ⟨t22, e23⟩ : ∃ y, y = oA s_t 0 (upd (s_t.2.2.1 0) ((b6 * 64) + b8 : Int32).toNatClampNeg x19) := ⟨_, rfl⟩
    rw [← e23] at hH
    replace hF := bnd_e hF e23
    obtain ⟨v24, e25⟩ : ∃ y : Int32, y = b8 + 1 := ⟨_, rfl⟩
    replace hF := bnd_e hF e25
    refine lv_iinc (v := v24) (lv' := [(8, .int v24), (0, .ref (q 3)), (1, .ref (q1 5)), (2, .int b2), (3, .int b3), (4, .int b4), (5, .int b5), (6, .int b6), (7, .int b7), (9, .int v17)]) X.x X.b (dk DX4_clearBelow_1 9 rfl) hl (k := 8) rfl (by rw [e25]; rfl) (by decide) rfl (fun ls hl => ?_)
    replace hl : lv_has ls 10 [(0, .ref (q 3)), (1, .ref (q1 5)), (2, .int b2), (3, .int b3), (4, .int b4), (5, .int b5), (6, .int b6), (7, .int b7), (8, .int v24)] := lv_sub hl [1, 2, 3, 4, 5, 6, 7, 8, 0] rfl
    refine lv_goto (tgt := 56) X.x X.b (dk DX4_clearBelow_1 10 rfl) (by decide) ?_
    exact (lp_l hF hx) _ _ _ hH (lv_sub hl [0, 1, 2, 3, 4, 5, 6, 7, 8] rfl) K0
set_option maxHeartbeats 4000000 in
set_option maxRecDepth 100000 in
theorem w_X4_clearBelow_18 {p : Program} {l : Launch} {e : Env} {s : State} {m : MethodId} {args : Array Value} {below : List Frame} {meth : Method} {c : Code} {Q : State → Prop} {G : mG} {h : mM} {q : Nat → Nat} {q1 : Nat → Nat} (hq : oinj LX4 q) (hq1 : oinj LX10 q1) (ha : oap [(LX4, q), (LX10, q1)]) (X : mX G p m c cX4_clearBelow 10 s args RX4) (s_o1 : OS) (b2 : Int32) (b3 : Int32) (b4 : Int32) (b5 : Int32) : ∀ (z : OS × Int32) (r : OS), lpv (f_X4_clearBelow_18 s_o1 b2 b3 b4 b5) z = some r → ∀ (H : Heap) (locs : List Loc) (ls : Array Slot), mH G (oset LX4 G q z.1 (oset LX10 G q1 s_o1 h)) s.heap H locs → lv_has ls 10 [(0, .ref (q 3)), (1, .ref (q1 5)), (2, .int b2), (3, .int b3), (4, .int b4), (5, .int b5), (6, .int z.2)] → (∀ (H : Heap) (locs : List Loc) (ls : Array Slot), mH G (oset LX4 G q r (oset LX10 G q1 s_o1 h)) s.heap H locs → lv_has ls 10 [] → W p l e rm_X4_clearBelow s m args below meth c H locs 0 0 Q (F0 m 129 ls [])) → W p l e rm_X4_clearBelow s m args below meth c H locs 0 0 Q (F0 m 18 ls []) := by
  refine lpv_rec ?_
  intro z r x hF hx H locs ls hH hl K0
  obtain ⟨s_t, b6⟩ := z
  dsimp only [f_X4_clearBelow_18] at hF
  try dsimp only at hH hl
  refine lv_iload X.x X.b (dk DX4_clearBelow_0 13 rfl) (lv_at hl 6 rfl) ?_
  refine lv_aload_n X.x X.b (dk DX4_clearBelow_0 14 rfl) rfl (lv_at hl 1 rfl) ?_
  refine og_getIN OX10 X hq1 (mH_perm (l1 := [(LX4, q, s_t), (LX10, q1, s_o1)]) (l2 := [(LX10, q1, s_o1), (LX4, q, s_t)]) ha [1, 0] [1, 0] rfl rfl rfl hH) 1 (by decide) rfl kFN_X4_48 (dk DX4_clearBelow_0 15 rfl) ?_
  refine lv_icmp_ge (tgt := 129) X.x X.b (dk DX4_clearBelow_0 16 rfl) (by decide) (fun c6 => ?_) (fun c6 => ?_)
  · replace hF := if_t hF c6
    have hr9 := lp_r hF hx
    subst hr9
    exact K0 _ _ _ hH (lv_sub hl [] rfl)
  · replace hF := if_f hF c6
    refine lv_iload X.x X.b (dk DX4_clearBelow_0 17 rfl) (lv_at hl 6 rfl) ?_
    refine lv_bipush (v := 64) X.x X.b (dk DX4_clearBelow_0 18 rfl) (by decide) ?_
    refine lv_icmp_ge (tgt := 129) X.x X.b (dk DX4_clearBelow_0 19 rfl) (by decide) (fun c7 => ?_) (fun c7 => ?_)
    · replace hF := if_t hF c7
      have hr9 := lp_r hF hx
      subst hr9
      exact K0 _ _ _ hH (lv_sub hl [] rfl)
    · replace hF := if_f hF c7
      refine lv_aload_n X.x X.b (dk DX4_clearBelow_0 20 rfl) rfl (lv_at hl 0 rfl) ?_
      refine og_getR (t := 0) OX4 X hq hH 0 (by decide) rfl kF_X4_13 (dk DX4_clearBelow_0 21 rfl) ?_
      refine lv_iload X.x X.b (dk DX4_clearBelow_0 22 rfl) (lv_at hl 6 rfl) ?_
      refine lv_bipush (v := 64) X.x X.b (dk DX4_clearBelow_0 23 rfl) (by decide) ?_
      refine lv_imul X.x X.b (dk DX4_clearBelow_0 24 rfl) ?_
      refine lv_iload_n X.x X.b (dk DX4_clearBelow_0 25 rfl) rfl (lv_at hl 3 rfl) ?_
      refine lv_iadd X.x X.b (dk DX4_clearBelow_0 26 rfl) ?_
      obtain ⟨c8, hF⟩ := gd hF
      refine og_iald X hq hH 0 (by decide) rfl (inb_in c8) (dk DX4_clearBelow_0 27 rfl) ?_
      refine lv_topi (fun v9 e10 => ?_)
      replace hF := bnd_e hF e10
      refine lv_istore (lv' := [(7, .int v9), (0, .ref (q 3)), (1, .ref (q1 5)), (2, .int b2), (3, .int b3), (4, .int b4), (5, .int b5), (6, .int b6)]) X.x X.b (dk DX4_clearBelow_0 28 rfl) hl (by decide) rfl (fun ls hl => ?_)
      replace hl : lv_has ls 10 [(0, .ref (q 3)), (1, .ref (q1 5)), (2, .int b2), (3, .int b3), (4, .int b4), (5, .int b5), (6, .int b6), (7, .int v9)] := lv_sub hl [1, 2, 3, 4, 5, 6, 7, 0] rfl
      refine lv_iload X.x X.b (dk DX4_clearBelow_0 29 rfl) (lv_at hl 7 rfl) ?_
      refine lv_if_eq (tgt := 123) X.x X.b (dk DX4_clearBelow_0 30 rfl) (by decide) (fun c11 => ?_) (fun c11 => ?_)
      · replace hF := if_t hF c11
        obtain ⟨v12, e13⟩ : ∃ y : Int32, y = b6 + 1 := ⟨_, rfl⟩
        replace hF := bnd_e hF e13
        refine lv_iinc (v := v12) (lv' := [(6, .int v12), (0, .ref (q 3)), (1, .ref (q1 5)), (2, .int b2), (3, .int b3), (4, .int b4), (5, .int b5), (7, .int v9)]) X.x X.b (dk DX4_clearBelow_1 11 rfl) hl (k := 6) rfl (by rw [e13]; rfl) (by decide) rfl (fun ls hl => ?_)
        replace hl : lv_has ls 10 [(0, .ref (q 3)), (1, .ref (q1 5)), (2, .int b2), (3, .int b3), (4, .int b4), (5, .int b5), (6, .int v12)] := lv_sub hl [1, 2, 3, 4, 5, 6, 0] rfl
        refine lv_goto (tgt := 18) X.x X.b (dk DX4_clearBelow_1 12 rfl) (by decide) ?_
        exact (lp_l hF hx) _ _ _ hH (lv_sub hl [0, 1, 2, 3, 4, 5, 6] rfl) K0
      · replace hF := if_f hF c11
        refine lv_iload_n X.x X.b (dk DX4_clearBelow_0 31 rfl) rfl (lv_at hl 3 rfl) ?_
        refine lv_istore (lv' := [(8, .int b3), (0, .ref (q 3)), (1, .ref (q1 5)), (2, .int b2), (3, .int b3), (4, .int b4), (5, .int b5), (6, .int b6), (7, .int v9)]) X.x X.b (dk DX4_clearBelow_0 32 rfl) hl (by decide) rfl (fun ls hl => ?_)
        replace hl : lv_has ls 10 [(0, .ref (q 3)), (1, .ref (q1 5)), (2, .int b2), (3, .int b3), (4, .int b4), (5, .int b5), (6, .int b6), (7, .int v9), (8, .int b3)] := lv_sub hl [1, 2, 3, 4, 5, 6, 7, 8, 0] rfl
        obtain ⟨x26, e27, hF⟩ := bd hF
        replace hl : lv_has ls 10 [(0, .ref (q 3)), (1, .ref (q1 5)), (2, .int b2), (3, .int b3), (4, .int b4), (5, .int b5), (6, .int b6), (7, .int v9), (8, .int b3)] := lv_sub hl [0, 1, 2, 3, 4, 5, 6, 7, 8] rfl
        refine w_X4_clearBelow_56 hq hq1 ha X s_o1 b2 b3 b4 b5 b6 v9 _ _ e27 _ _ _ hH hl (fun H locs ls hH hl => ?_)
        obtain ⟨v29, e30⟩ : ∃ y : Int32, y = b6 + 1 := ⟨_, rfl⟩
        replace hF := bnd_e hF e30
        refine lv_iinc (v := v29) (lv' := [(6, .int v29), (0, .ref (q 3)), (1, .ref (q1 5)), (2, .int b2), (3, .int b3), (4, .int b4), (5, .int b5)]) X.x X.b (dk DX4_clearBelow_1 11 rfl) hl (k := 6) rfl (by rw [e30]; rfl) (by decide) rfl (fun ls hl => ?_)
        replace hl : lv_has ls 10 [(0, .ref (q 3)), (1, .ref (q1 5)), (2, .int b2), (3, .int b3), (4, .int b4), (5, .int b5), (6, .int v29)] := lv_sub hl [1, 2, 3, 4, 5, 6, 0] rfl
        refine lv_goto (tgt := 18) X.x X.b (dk DX4_clearBelow_1 12 rfl) (by decide) ?_
        exact (lp_l hF hx) _ _ _ hH (lv_sub hl [0, 1, 2, 3, 4, 5, 6] rfl) K0
set_option maxHeartbeats 4000000 in
set_option maxRecDepth 100000 in
theorem c_X4_clearBelow {l : Launch} {G : mG} {h : mM} {q : Nat → Nat} {q1 : Nat → Nat} (hq : oinj LX4 q) (hq1 : oinj LX10 q1) (ha : oap [(LX4, q), (LX10, q1)]) {st : OS} {st1 : OS} {a1 : Int32} {a2 : Int32} {a3 : Int32} {x : OS} (hF : f_X4_clearBelow st st1 a1 a2 a3 = some x) : cQ l G yX4_clearBelow cX4_clearBelow 10 none rm_X4_clearBelow [.ref (q 3), .ref (q1 5), .int a1, .int a2, .int a3] (oset LX4 G q st (oset LX10 G q1 st1 h)) (mQv G (fun h1 => h1 = oset LX4 G q x (oset LX10 G q1 st1 h))) := by
  refine mp_of (by decide +kernel) (Nat.le_of_ble_eq_true rfl) ?_
  intro p e s m below meth c X hr hlk hH hname ls hl
  dsimp only [f_X4_clearBelow] at hF
  replace hl : lv_has ls 10 [(0, .ref (q 3)), (1, .ref (q1 5)), (2, .int a1), (3, .int a2), (4, .int a3)] := hl
  refine lv_aload_n X.x X.b (dk DX4_clearBelow_0 0 rfl) rfl (lv_at hl 0 rfl) ?_
  refine og_getR (t := 0) OX4 X hq hH 0 (by decide) rfl kF_X4_13 (dk DX4_clearBelow_0 1 rfl) ?_
  refine lv_iload_n X.x X.b (dk DX4_clearBelow_0 2 rfl) rfl (lv_at hl 2 rfl) ?_
  refine lv_bipush (v := 64) X.x X.b (dk DX4_clearBelow_0 3 rfl) (by decide) ?_
  refine lv_imul X.x X.b (dk DX4_clearBelow_0 4 rfl) ?_
  refine lv_iload_n X.x X.b (dk DX4_clearBelow_0 5 rfl) rfl (lv_at hl 3 rfl) ?_
  refine lv_iadd X.x X.b (dk DX4_clearBelow_0 6 rfl) ?_
  obtain ⟨c1, hF⟩ := gd hF
  refine og_iald X hq hH 0 (by decide) rfl (inb_in c1) (dk DX4_clearBelow_0 7 rfl) ?_
  refine lv_topi (fun v2 e3 => ?_)
  replace hF := bnd_e hF e3
  refine lv_istore (lv' := [(5, .int v2), (0, .ref (q 3)), (1, .ref (q1 5)), (2, .int a1), (3, .int a2), (4, .int a3)]) X.x X.b (dk DX4_clearBelow_0 8 rfl) hl (by decide) rfl (fun ls hl => ?_)
  replace hl : lv_has ls 10 [(0, .ref (q 3)), (1, .ref (q1 5)), (2, .int a1), (3, .int a2), (4, .int a3), (5, .int v2)] := lv_sub hl [1, 2, 3, 4, 5, 0] rfl
  refine lv_iload_n X.x X.b (dk DX4_clearBelow_0 9 rfl) rfl (lv_at hl 2 rfl) ?_
  refine lv_iconst (v := 1) X.x X.b (dk DX4_clearBelow_0 10 rfl) (by decide) ?_
  refine lv_iadd X.x X.b (dk DX4_clearBelow_0 11 rfl) ?_
  refine lv_topi (fun v4 e5 => ?_)
  replace hF := bnd_e hF e5
  refine lv_istore (lv' := [(6, .int v4), (0, .ref (q 3)), (1, .ref (q1 5)), (2, .int a1), (3, .int a2), (4, .int a3), (5, .int v2)]) X.x X.b (dk DX4_clearBelow_0 12 rfl) hl (by decide) rfl (fun ls hl => ?_)
  replace hl : lv_has ls 10 [(0, .ref (q 3)), (1, .ref (q1 5)), (2, .int a1), (3, .int a2), (4, .int a3), (5, .int v2), (6, .int v4)] := lv_sub hl [1, 2, 3, 4, 5, 6, 0] rfl
  obtain ⟨x31, e32, hF⟩ := bd hF
  replace hl : lv_has ls 10 [(0, .ref (q 3)), (1, .ref (q1 5)), (2, .int a1), (3, .int a2), (4, .int a3), (5, .int v2), (6, .int v4)] := lv_sub hl [0, 1, 2, 3, 4, 5, 6] rfl
  refine w_X4_clearBelow_18 hq hq1 ha X st1 a1 a2 a3 v2 _ _ e32 _ _ _ hH hl (fun H locs ls hH hl => ?_)
  cases sm hF
  exact mr_vret X hr hlk hH rfl (dk DX4_clearBelow_1 13 rfl)
-- X4_rankOver
abbrev rm_X4_rankOver : Room := { frames := 4, cells := 0, slots := 0, locals := 91 }
theorem hd_X4_rankOver : mHd yX4_rankOver 2 := ⟨by decide +kernel, by decide +kernel, by decide +kernel⟩
theorem DX4_rankOver_0 : ∀ t ∈ ([(0, .iload_n 2, 1), (1, .iconst 2, 1), (2, .if_icmp .ne 9, 3), (5, .aload_n 0, 1), (6, .aload_n 1, 1), (7, .invokevirtual 24, 3), (10, .ireturn, 1), (11, .iconst 0, 1), (12, .istore_n 3, 1), (13, .iload_n 3, 1), (14, .bipush 64, 2), (16, .if_icmp .ge 55, 3), (19, .iconst 0, 1), (20, .istore 4, 2), (22, .iload 4, 2), (24, .bipush 64, 2), (26, .if_icmp .ge 39, 3), (29, .aload_n 0, 1), (30, .getfield 13, 3), (33, .iload_n 3, 1), (34, .bipush 64, 2), (36, .imul, 1), (37, .iload 4, 2), (39, .iadd, 1), (40, .aload_n 1, 1), (41, .iload_n 3, 1), (42, .invokevirtual 28, 3), (45, .iload 4, 2), (47, .invokestatic 32, 3), (50, .ifCond .eq 7, 3), (53, .iconst 1, 1), (54, .goto 4, 3), (57, .iconst 0, 1), (58, .iastore, 1), (59, .iinc 4 1, 3), (62, .goto (-40), 3), (65, .iinc 3 1, 3), (68, .goto (-55), 3), (71, .iconst 0, 1), (72, .istore_n 3, 1), (73, .iconst 0, 1), (74, .istore 4, 2), (76, .iload 4, 2), (78, .aload_n 1, 1), (79, .getfield 36, 3), (82, .if_icmp .ge 45, 3), (85, .iload 4, 2), (87, .bipush 64, 2), (89, .if_icmp .ge 38, 3), (92, .iload_n 3, 1), (93, .bipush 64, 2), (95, .if_icmp .ge 32, 3), (98, .aload_n 0, 1), (99, .aload_n 1, 1), (100, .iload_n 3, 1), (101, .iload 4, 2), (103, .invokevirtual 40, 3), (106, .ifCond .eq 15, 3), (109, .aload_n 0, 1), (110, .aload_n 1, 1)] : List (Nat × Instr × Nat)), decode cX4_rankOver t.1 = .ok (t.2.1, t.2.2) := by decide +kernel
theorem DX4_rankOver_1 : ∀ t ∈ ([(111, .iload_n 3, 1), (112, .iload 4, 2), (114, .iload_n 2, 1), (115, .invokevirtual 44, 3), (118, .iinc 3 1, 3), (121, .iinc 4 1, 3), (124, .goto (-48), 3), (127, .iload_n 3, 1), (128, .ireturn, 1)] : List (Nat × Instr × Nat)), decode cX4_rankOver t.1 = .ok (t.2.1, t.2.2) := by decide +kernel
noncomputable def f_X4_rankOver_22 (s_o1 : OS) (b2 : Int32) (b3 : Int32) : (OS × Int32) → Option ((OS × Int32) ⊕ (OS)) := fun z => match z with | (s_t, b4) => (if 64 ≤ b4 then some (.inr s_t) else (f_X10_setAt s_o1 b3).bind (fun x4 => (f_X10_has x4 b4).bind (fun x7 => (if x7 = 0 then if inb ((b3 * 64) + b4) 4096 = true then bnd (oA s_t 0 (upd (s_t.2.2.1 0) ((b3 * 64) + b4 : Int32).toNatClampNeg 0)) (fun t12 => bnd (b4 + 1 : Int32) (fun v14 => some (.inl ((t12, v14))))) else none else if inb ((b3 * 64) + b4) 4096 = true then bnd (oA s_t 0 (upd (s_t.2.2.1 0) ((b3 * 64) + b4 : Int32).toNatClampNeg 1)) (fun t17 => bnd (b4 + 1 : Int32) (fun v19 => some (.inl ((t17, v19))))) else none))))
noncomputable def f_X4_rankOver_13 (s_o1 : OS) (b2 : Int32) : (OS × Int32) → Option ((OS × Int32) ⊕ (OS)) := fun z => match z with | (s_t, b3) => (if 64 ≤ b3 then some (.inr s_t) else (lpv (f_X4_rankOver_22 s_o1 b2 b3) ((s_t, 0))).bind (fun x21 => bnd (b3 + 1 : Int32) (fun v24 => some (.inl ((x21, v24))))))
noncomputable def f_X4_rankOver_76 (s_o1 : OS) (b2 : Int32) : (OS × Int32 × Int32) → Option ((OS × Int32 × Int32) ⊕ (OS × Int32)) := fun z => match z with | (s_t, b3, b4) => (if (s_o1.1 0) ≤ b4 then some (.inr ((s_t, b3))) else (if 64 ≤ b4 then some (.inr ((s_t, b3))) else (if 64 ≤ b3 then some (.inr ((s_t, b3))) else (f_X4_bringUp s_t s_o1 b3 b4).bind (fun x32 => match x32 with | (v34, t35) => (if v34 = 0 then bnd (b4 + 1 : Int32) (fun v37 => some (.inl ((t35, b3, v37)))) else (f_X4_clearBelow t35 s_o1 b3 b4 b2).bind (fun x39 => bnd (b3 + 1 : Int32) (fun v42 => bnd (b4 + 1 : Int32) (fun v44 => some (.inl ((x39, v42, v44)))))))))))
noncomputable def f_X4_rankOver (st : OS) (st1 : OS) (a1 : Int32) : Option (Int32 × OS) := (if a1 = 2 then (f_X4_reduce st st1).bind (fun x50 => match x50 with | (v52, t53) => some ((v52, t53))) else (lpv (f_X4_rankOver_13 st1 a1) ((st, 0))).bind (fun x26 => (lpv (f_X4_rankOver_76 st1 a1) ((x26, 0, 0))).bind (fun x46 => match x46 with | (t48, v49) => some ((v49, t48)))))
set_option maxHeartbeats 4000000 in
set_option maxRecDepth 100000 in
theorem w_X4_rankOver_22 {p : Program} {l : Launch} {e : Env} {s : State} {m : MethodId} {args : Array Value} {below : List Frame} {meth : Method} {c : Code} {Q : State → Prop} {G : mG} {h : mM} {q : Nat → Nat} {q1 : Nat → Nat} (hq : oinj LX4 q) (hq1 : oinj LX10 q1) (ha : oap [(LX4, q), (LX10, q1)]) (X : mX G p m c cX4_rankOver 5 s args RX4) (s_o1 : OS) (b2 : Int32) (b3 : Int32) : ∀ (z : OS × Int32) (r : OS), lpv (f_X4_rankOver_22 s_o1 b2 b3) z = some r → ∀ (H : Heap) (locs : List Loc) (ls : Array Slot), mH G (oset LX4 G q z.1 (oset LX10 G q1 s_o1 h)) s.heap H locs → lv_has ls 5 [(0, .ref (q 3)), (1, .ref (q1 5)), (2, .int b2), (3, .int b3), (4, .int z.2)] → (∀ (H : Heap) (locs : List Loc) (ls : Array Slot), mH G (oset LX4 G q r (oset LX10 G q1 s_o1 h)) s.heap H locs → lv_has ls 5 [(0, .ref (q 3)), (1, .ref (q1 5)), (2, .int b2), (3, .int b3)] → W p l e rm_X4_rankOver s m args below meth c H locs 0 0 Q (F0 m 65 ls [])) → W p l e rm_X4_rankOver s m args below meth c H locs 0 0 Q (F0 m 22 ls []) := by
  refine lpv_rec ?_
  intro z r x hF hx H locs ls hH hl K0
  obtain ⟨s_t, b4⟩ := z
  dsimp only [f_X4_rankOver_22] at hF
  try dsimp only at hH hl
  refine lv_iload X.x X.b (dk DX4_rankOver_0 14 rfl) (lv_at hl 4 rfl) ?_
  refine lv_bipush (v := 64) X.x X.b (dk DX4_rankOver_0 15 rfl) (by decide) ?_
  refine lv_icmp_ge (tgt := 65) X.x X.b (dk DX4_rankOver_0 16 rfl) (by decide) (fun c3 => ?_) (fun c3 => ?_)
  · replace hF := if_t hF c3
    have hr9 := lp_r hF hx
    subst hr9
    exact K0 _ _ _ hH (lv_sub hl [0, 1, 2, 3] rfl)
  · replace hF := if_f hF c3
    refine lv_aload_n X.x X.b (dk DX4_rankOver_0 17 rfl) rfl (lv_at hl 0 rfl) ?_
    refine og_getR (t := 0) OX4 X hq hH 0 (by decide) rfl kF_X4_13 (dk DX4_rankOver_0 18 rfl) ?_
    refine lv_iload_n X.x X.b (dk DX4_rankOver_0 19 rfl) rfl (lv_at hl 3 rfl) ?_
    refine lv_bipush (v := 64) X.x X.b (dk DX4_rankOver_0 20 rfl) (by decide) ?_
    refine lv_imul X.x X.b (dk DX4_rankOver_0 21 rfl) ?_
    refine lv_iload X.x X.b (dk DX4_rankOver_0 22 rfl) (lv_at hl 4 rfl) ?_
    refine lv_iadd X.x X.b (dk DX4_rankOver_0 23 rfl) ?_
    refine lv_aload_n X.x X.b (dk DX4_rankOver_0 24 rfl) rfl (lv_at hl 1 rfl) ?_
    refine lv_iload_n X.x X.b (dk DX4_rankOver_0 25 rfl) rfl (lv_at hl 3 rfl) ?_
    obtain ⟨x4, e5, hF⟩ := bd hF
    refine mr_cl0 (mH_perm (l1 := [(LX4, q, s_t), (LX10, q1, s_o1)]) (l2 := [(LX10, q1, s_o1), (LX4, q, s_t)]) ha [1, 0] [1, 0] rfl rfl rfl hH) ⟨rfl, rfl⟩ (mr_runV (As := [.int b3]) (rest := [.int ((b3 * 64) + b4), .ref (q 0)]) X (mH_perm (l1 := [(LX4, q, s_t), (LX10, q1, s_o1)]) (l2 := [(LX10, q1, s_o1), (LX4, q, s_t)]) ha [1, 0] [1, 0] rfl rfl rfl hH) (c_X10_setAt hq1 e5) ((oset_at hq1 (Nat.le_refl _) ohas_N).trans (congrArg some ocell_N)) OX10.1 kM_X4_28 kI_X10_setAt kS_X10_setAt kN_X10 kC_X10_setAt hd_X10_setAt ⟨Nat.le_of_ble_eq_true rfl, Nat.le_of_ble_eq_true rfl⟩ rfl hl.1 (Nat.le_of_ble_eq_true rfl) (dk DX4_rankOver_0 26 rfl) ⟨Nat.zero_le _, Nat.zero_le _⟩) (fun r h1 H locs hp hH => ?_)
    obtain ⟨hr1, hr2⟩ := hp; rw [hr1]; rw [hr2] at hH; clear hr1 hr2
    replace hH : mH G (oset LX4 G q s_t (oset LX10 G q1 s_o1 h)) s.heap H locs := mH_unperm (l1 := [(LX4, q, s_t), (LX10, q1, s_o1)]) (l2 := [(LX10, q1, s_o1), (LX4, q, s_t)]) ha [1, 0] [1, 0] rfl rfl rfl hH
    refine lv_iload X.x X.b (dk DX4_rankOver_0 27 rfl) (lv_at hl 4 rfl) ?_
    obtain ⟨x7, e8, hF⟩ := bd hF
    refine mr_ci0 hH ⟨rfl, rfl⟩ (mr_runS (As := [.long x4, .int b4]) (rest := [.int ((b3 * 64) + b4), .ref (q 0)]) X hH (c_X10_has e8) kM_X4_32 kT_X10_has kN_X10 kC_X10_has hd_X10_has ⟨Nat.le_of_ble_eq_true rfl, Nat.le_of_ble_eq_true rfl⟩ rfl hl.1 (Nat.le_of_ble_eq_true rfl) (dk DX4_rankOver_0 28 rfl) ⟨Nat.zero_le _, Nat.zero_le _⟩) (fun r h1 H locs hp hH => ?_)
    obtain ⟨hr1, hr2⟩ := hp; rw [hr1]; rw [hr2] at hH; clear hr1 hr2
    refine lv_if_eq (tgt := 57) X.x X.b (dk DX4_rankOver_0 29 rfl) (by decide) (fun c10 => ?_) (fun c10 => ?_)
    · replace hF := if_t hF c10
      refine lv_iconst (v := 0) X.x X.b (dk DX4_rankOver_0 32 rfl) (by decide) ?_
      obtain ⟨c11, hF⟩ := gd hF
      refine og_iast X hq hH 0 (by decide) rfl (inb_in c11) (dk DX4_rankOver_0 33 rfl) (fun H locs hH => ?_)
      obtain ⟨t12, e13⟩ : ∃ y, y = oA s_t 0 (upd (s_t.2.2.1 0) ((b3 * 64) + b4 : Int32).toNatClampNeg 0) := ⟨_, rfl⟩
      rw [← e13] at hH
      replace hF := bnd_e hF e13
      obtain ⟨v14, e15⟩ : ∃ y : Int32, y = b4 + 1 := ⟨_, rfl⟩
      replace hF := bnd_e hF e15
      refine lv_iinc (v := v14) (lv' := [(4, .int v14), (0, .ref (q 3)), (1, .ref (q1 5)), (2, .int b2), (3, .int b3)]) X.x X.b (dk DX4_rankOver_0 34 rfl) hl (k := 4) rfl (by rw [e15]; rfl) (by decide) rfl (fun ls hl => ?_)
      replace hl : lv_has ls 5 [(0, .ref (q 3)), (1, .ref (q1 5)), (2, .int b2), (3, .int b3), (4, .int v14)] := lv_sub hl [1, 2, 3, 4, 0] rfl
      refine lv_goto (tgt := 22) X.x X.b (dk DX4_rankOver_0 35 rfl) (by decide) ?_
      exact (lp_l hF hx) _ _ _ hH (lv_sub hl [0, 1, 2, 3, 4] rfl) K0
    · replace hF := if_f hF c10
      refine lv_iconst (v := 1) X.x X.b (dk DX4_rankOver_0 30 rfl) (by decide) ?_
      refine lv_goto (tgt := 58) X.x X.b (dk DX4_rankOver_0 31 rfl) (by decide) ?_
      obtain ⟨c16, hF⟩ := gd hF
      refine og_iast X hq hH 0 (by decide) rfl (inb_in c16) (dk DX4_rankOver_0 33 rfl) (fun H locs hH => ?_)
      obtain ⟨t17, e18⟩ : ∃ y, y = oA s_t 0 (upd (s_t.2.2.1 0) ((b3 * 64) + b4 : Int32).toNatClampNeg 1) := ⟨_, rfl⟩
      rw [← e18] at hH
      replace hF := bnd_e hF e18
      obtain ⟨v19, e20⟩ : ∃ y : Int32, y = b4 + 1 := ⟨_, rfl⟩
      replace hF := bnd_e hF e20
      refine lv_iinc (v := v19) (lv' := [(4, .int v19), (0, .ref (q 3)), (1, .ref (q1 5)), (2, .int b2), (3, .int b3)]) X.x X.b (dk DX4_rankOver_0 34 rfl) hl (k := 4) rfl (by rw [e20]; rfl) (by decide) rfl (fun ls hl => ?_)
      replace hl : lv_has ls 5 [(0, .ref (q 3)), (1, .ref (q1 5)), (2, .int b2), (3, .int b3), (4, .int v19)] := lv_sub hl [1, 2, 3, 4, 0] rfl
      refine lv_goto (tgt := 22) X.x X.b (dk DX4_rankOver_0 35 rfl) (by decide) ?_
      exact (lp_l hF hx) _ _ _ hH (lv_sub hl [0, 1, 2, 3, 4] rfl) K0
set_option maxHeartbeats 4000000 in
set_option maxRecDepth 100000 in
theorem w_X4_rankOver_13 {p : Program} {l : Launch} {e : Env} {s : State} {m : MethodId} {args : Array Value} {below : List Frame} {meth : Method} {c : Code} {Q : State → Prop} {G : mG} {h : mM} {q : Nat → Nat} {q1 : Nat → Nat} (hq : oinj LX4 q) (hq1 : oinj LX10 q1) (ha : oap [(LX4, q), (LX10, q1)]) (X : mX G p m c cX4_rankOver 5 s args RX4) (s_o1 : OS) (b2 : Int32) : ∀ (z : OS × Int32) (r : OS), lpv (f_X4_rankOver_13 s_o1 b2) z = some r → ∀ (H : Heap) (locs : List Loc) (ls : Array Slot), mH G (oset LX4 G q z.1 (oset LX10 G q1 s_o1 h)) s.heap H locs → lv_has ls 5 [(0, .ref (q 3)), (1, .ref (q1 5)), (2, .int b2), (3, .int z.2)] → (∀ (H : Heap) (locs : List Loc) (ls : Array Slot), mH G (oset LX4 G q r (oset LX10 G q1 s_o1 h)) s.heap H locs → lv_has ls 5 [(0, .ref (q 3)), (1, .ref (q1 5)), (2, .int b2)] → W p l e rm_X4_rankOver s m args below meth c H locs 0 0 Q (F0 m 71 ls [])) → W p l e rm_X4_rankOver s m args below meth c H locs 0 0 Q (F0 m 13 ls []) := by
  refine lpv_rec ?_
  intro z r x hF hx H locs ls hH hl K0
  obtain ⟨s_t, b3⟩ := z
  dsimp only [f_X4_rankOver_13] at hF
  try dsimp only at hH hl
  refine lv_iload_n X.x X.b (dk DX4_rankOver_0 9 rfl) rfl (lv_at hl 3 rfl) ?_
  refine lv_bipush (v := 64) X.x X.b (dk DX4_rankOver_0 10 rfl) (by decide) ?_
  refine lv_icmp_ge (tgt := 71) X.x X.b (dk DX4_rankOver_0 11 rfl) (by decide) (fun c2 => ?_) (fun c2 => ?_)
  · replace hF := if_t hF c2
    have hr9 := lp_r hF hx
    subst hr9
    exact K0 _ _ _ hH (lv_sub hl [0, 1, 2] rfl)
  · replace hF := if_f hF c2
    refine lv_iconst (v := 0) X.x X.b (dk DX4_rankOver_0 12 rfl) (by decide) ?_
    refine lv_istore (lv' := [(4, .int 0), (0, .ref (q 3)), (1, .ref (q1 5)), (2, .int b2), (3, .int b3)]) X.x X.b (dk DX4_rankOver_0 13 rfl) hl (by decide) rfl (fun ls hl => ?_)
    replace hl : lv_has ls 5 [(0, .ref (q 3)), (1, .ref (q1 5)), (2, .int b2), (3, .int b3), (4, .int 0)] := lv_sub hl [1, 2, 3, 4, 0] rfl
    obtain ⟨x21, e22, hF⟩ := bd hF
    replace hl : lv_has ls 5 [(0, .ref (q 3)), (1, .ref (q1 5)), (2, .int b2), (3, .int b3), (4, .int 0)] := lv_sub hl [0, 1, 2, 3, 4] rfl
    refine w_X4_rankOver_22 hq hq1 ha X s_o1 b2 b3 _ _ e22 _ _ _ hH hl (fun H locs ls hH hl => ?_)
    obtain ⟨v24, e25⟩ : ∃ y : Int32, y = b3 + 1 := ⟨_, rfl⟩
    replace hF := bnd_e hF e25
    refine lv_iinc (v := v24) (lv' := [(3, .int v24), (0, .ref (q 3)), (1, .ref (q1 5)), (2, .int b2)]) X.x X.b (dk DX4_rankOver_0 36 rfl) hl (k := 3) rfl (by rw [e25]; rfl) (by decide) rfl (fun ls hl => ?_)
    replace hl : lv_has ls 5 [(0, .ref (q 3)), (1, .ref (q1 5)), (2, .int b2), (3, .int v24)] := lv_sub hl [1, 2, 3, 0] rfl
    refine lv_goto (tgt := 13) X.x X.b (dk DX4_rankOver_0 37 rfl) (by decide) ?_
    exact (lp_l hF hx) _ _ _ hH (lv_sub hl [0, 1, 2, 3] rfl) K0
set_option maxHeartbeats 4000000 in
set_option maxRecDepth 100000 in
theorem w_X4_rankOver_76 {p : Program} {l : Launch} {e : Env} {s : State} {m : MethodId} {args : Array Value} {below : List Frame} {meth : Method} {c : Code} {Q : State → Prop} {G : mG} {h : mM} {q : Nat → Nat} {q1 : Nat → Nat} (hq : oinj LX4 q) (hq1 : oinj LX10 q1) (ha : oap [(LX4, q), (LX10, q1)]) (X : mX G p m c cX4_rankOver 5 s args RX4) (s_o1 : OS) (b2 : Int32) : ∀ (z : OS × Int32 × Int32) (r : OS × Int32), lpv (f_X4_rankOver_76 s_o1 b2) z = some r → ∀ (H : Heap) (locs : List Loc) (ls : Array Slot), mH G (oset LX4 G q z.1 (oset LX10 G q1 s_o1 h)) s.heap H locs → lv_has ls 5 [(0, .ref (q 3)), (1, .ref (q1 5)), (2, .int b2), (3, .int z.2.1), (4, .int z.2.2)] → (∀ (H : Heap) (locs : List Loc) (ls : Array Slot), mH G (oset LX4 G q r.1 (oset LX10 G q1 s_o1 h)) s.heap H locs → lv_has ls 5 [(3, .int r.2)] → W p l e rm_X4_rankOver s m args below meth c H locs 0 0 Q (F0 m 127 ls [])) → W p l e rm_X4_rankOver s m args below meth c H locs 0 0 Q (F0 m 76 ls []) := by
  refine lpv_rec ?_
  intro z r x hF hx H locs ls hH hl K0
  obtain ⟨s_t, b3, b4⟩ := z
  dsimp only [f_X4_rankOver_76] at hF
  try dsimp only at hH hl
  refine lv_iload X.x X.b (dk DX4_rankOver_0 42 rfl) (lv_at hl 4 rfl) ?_
  refine lv_aload_n X.x X.b (dk DX4_rankOver_0 43 rfl) rfl (lv_at hl 1 rfl) ?_
  refine og_getIN OX10 X hq1 (mH_perm (l1 := [(LX4, q, s_t), (LX10, q1, s_o1)]) (l2 := [(LX10, q1, s_o1), (LX4, q, s_t)]) ha [1, 0] [1, 0] rfl rfl rfl hH) 0 (by decide) rfl kFN_X4_36 (dk DX4_rankOver_0 44 rfl) ?_
  refine lv_icmp_ge (tgt := 127) X.x X.b (dk DX4_rankOver_0 45 rfl) (by decide) (fun c29 => ?_) (fun c29 => ?_)
  · replace hF := if_t hF c29
    have hr9 := lp_r hF hx
    subst hr9
    exact K0 _ _ _ hH (lv_sub hl [3] rfl)
  · replace hF := if_f hF c29
    refine lv_iload X.x X.b (dk DX4_rankOver_0 46 rfl) (lv_at hl 4 rfl) ?_
    refine lv_bipush (v := 64) X.x X.b (dk DX4_rankOver_0 47 rfl) (by decide) ?_
    refine lv_icmp_ge (tgt := 127) X.x X.b (dk DX4_rankOver_0 48 rfl) (by decide) (fun c30 => ?_) (fun c30 => ?_)
    · replace hF := if_t hF c30
      have hr9 := lp_r hF hx
      subst hr9
      exact K0 _ _ _ hH (lv_sub hl [3] rfl)
    · replace hF := if_f hF c30
      refine lv_iload_n X.x X.b (dk DX4_rankOver_0 49 rfl) rfl (lv_at hl 3 rfl) ?_
      refine lv_bipush (v := 64) X.x X.b (dk DX4_rankOver_0 50 rfl) (by decide) ?_
      refine lv_icmp_ge (tgt := 127) X.x X.b (dk DX4_rankOver_0 51 rfl) (by decide) (fun c31 => ?_) (fun c31 => ?_)
      · replace hF := if_t hF c31
        have hr9 := lp_r hF hx
        subst hr9
        exact K0 _ _ _ hH (lv_sub hl [3] rfl)
      · replace hF := if_f hF c31
        refine lv_aload_n X.x X.b (dk DX4_rankOver_0 52 rfl) rfl (lv_at hl 0 rfl) ?_
        refine lv_aload_n X.x X.b (dk DX4_rankOver_0 53 rfl) rfl (lv_at hl 1 rfl) ?_
        refine lv_iload_n X.x X.b (dk DX4_rankOver_0 54 rfl) rfl (lv_at hl 3 rfl) ?_
        refine lv_iload X.x X.b (dk DX4_rankOver_0 55 rfl) (lv_at hl 4 rfl) ?_
        obtain ⟨x32, e33, hF⟩ := bd hF
        refine mr_ci0 hH ⟨rfl, rfl⟩ (mr_runV (As := [.ref (q1 5), .int b3, .int b4]) (rest := []) X hH (c_X4_bringUp hq hq1 ha e33) ((oset_at hq (Nat.le_refl _) ohas_N).trans (congrArg some ocell_N)) OX4.1 kM_X4_40 kI_X4_bringUp kS_X4_bringUp kN_X4 kC_X4_bringUp hd_X4_bringUp ⟨Nat.le_of_ble_eq_true rfl, Nat.le_of_ble_eq_true rfl⟩ rfl hl.1 (Nat.le_of_ble_eq_true rfl) (dk DX4_rankOver_0 56 rfl) ⟨Nat.zero_le _, Nat.zero_le _⟩) (fun r h1 H locs hp hH => ?_)
        obtain ⟨hr1, hr2⟩ := hp; rw [hr1]; rw [hr2] at hH; clear hr1 hr2
        obtain ⟨v34, t35⟩ := x32
        try dsimp only at hF hH ⊢
        refine lv_if_eq (tgt := 121) X.x X.b (dk DX4_rankOver_0 57 rfl) (by decide) (fun c36 => ?_) (fun c36 => ?_)
        · replace hF := if_t hF c36
          obtain ⟨v37, e38⟩ : ∃ y : Int32, y = b4 + 1 := ⟨_, rfl⟩
          replace hF := bnd_e hF e38
          refine lv_iinc (v := v37) (lv' := [(4, .int v37), (0, .ref (q 3)), (1, .ref (q1 5)), (2, .int b2), (3, .int b3)]) X.x X.b (dk DX4_rankOver_1 5 rfl) hl (k := 4) rfl (by rw [e38]; rfl) (by decide) rfl (fun ls hl => ?_)
          replace hl : lv_has ls 5 [(0, .ref (q 3)), (1, .ref (q1 5)), (2, .int b2), (3, .int b3), (4, .int v37)] := lv_sub hl [1, 2, 3, 4, 0] rfl
          refine lv_goto (tgt := 76) X.x X.b (dk DX4_rankOver_1 6 rfl) (by decide) ?_
          exact (lp_l hF hx) _ _ _ hH (lv_sub hl [0, 1, 2, 3, 4] rfl) K0
        · replace hF := if_f hF c36
          refine lv_aload_n X.x X.b (dk DX4_rankOver_0 58 rfl) rfl (lv_at hl 0 rfl) ?_
          refine lv_aload_n X.x X.b (dk DX4_rankOver_0 59 rfl) rfl (lv_at hl 1 rfl) ?_
          refine lv_iload_n X.x X.b (dk DX4_rankOver_1 0 rfl) rfl (lv_at hl 3 rfl) ?_
          refine lv_iload X.x X.b (dk DX4_rankOver_1 1 rfl) (lv_at hl 4 rfl) ?_
          refine lv_iload_n X.x X.b (dk DX4_rankOver_1 2 rfl) rfl (lv_at hl 2 rfl) ?_
          obtain ⟨x39, e40, hF⟩ := bd hF
          refine mr_cv0 hH ⟨rfl, rfl⟩ (mr_runV (As := [.ref (q1 5), .int b3, .int b4, .int b2]) (rest := []) X hH (c_X4_clearBelow hq hq1 ha e40) ((oset_at hq (Nat.le_refl _) ohas_N).trans (congrArg some ocell_N)) OX4.1 kM_X4_44 kI_X4_clearBelow kS_X4_clearBelow kN_X4 kC_X4_clearBelow hd_X4_clearBelow ⟨Nat.le_of_ble_eq_true rfl, Nat.le_of_ble_eq_true rfl⟩ rfl hl.1 (Nat.le_of_ble_eq_true rfl) (dk DX4_rankOver_1 3 rfl) ⟨Nat.zero_le _, Nat.zero_le _⟩) (fun h1 H locs hp hH => ?_)
          rw [hp] at hH; clear hp
          obtain ⟨v42, e43⟩ : ∃ y : Int32, y = b3 + 1 := ⟨_, rfl⟩
          replace hF := bnd_e hF e43
          refine lv_iinc (v := v42) (lv' := [(3, .int v42), (0, .ref (q 3)), (1, .ref (q1 5)), (2, .int b2), (4, .int b4)]) X.x X.b (dk DX4_rankOver_1 4 rfl) hl (k := 3) rfl (by rw [e43]; rfl) (by decide) rfl (fun ls hl => ?_)
          replace hl : lv_has ls 5 [(0, .ref (q 3)), (1, .ref (q1 5)), (2, .int b2), (3, .int v42), (4, .int b4)] := lv_sub hl [1, 2, 3, 0, 4] rfl
          obtain ⟨v44, e45⟩ : ∃ y : Int32, y = b4 + 1 := ⟨_, rfl⟩
          replace hF := bnd_e hF e45
          refine lv_iinc (v := v44) (lv' := [(4, .int v44), (0, .ref (q 3)), (1, .ref (q1 5)), (2, .int b2), (3, .int v42)]) X.x X.b (dk DX4_rankOver_1 5 rfl) hl (k := 4) rfl (by rw [e45]; rfl) (by decide) rfl (fun ls hl => ?_)
          replace hl : lv_has ls 5 [(0, .ref (q 3)), (1, .ref (q1 5)), (2, .int b2), (3, .int v42), (4, .int v44)] := lv_sub hl [1, 2, 3, 4, 0] rfl
          refine lv_goto (tgt := 76) X.x X.b (dk DX4_rankOver_1 6 rfl) (by decide) ?_
          exact (lp_l hF hx) _ _ _ hH (lv_sub hl [0, 1, 2, 3, 4] rfl) K0
set_option maxHeartbeats 4000000 in
set_option maxRecDepth 100000 in
theorem c_X4_rankOver {l : Launch} {G : mG} {h : mM} {q : Nat → Nat} {q1 : Nat → Nat} (hq : oinj LX4 q) (hq1 : oinj LX10 q1) (ha : oap [(LX4, q), (LX10, q1)]) {st : OS} {st1 : OS} {a1 : Int32} {x : Int32 × OS} (hF : f_X4_rankOver st st1 a1 = some x) : cQ l G yX4_rankOver cX4_rankOver 5 (some FieldType.int) rm_X4_rankOver [.ref (q 3), .ref (q1 5), .int a1] (oset LX4 G q st (oset LX10 G q1 st1 h)) (mQi G (fun r h1 => r = x.1 ∧ h1 = oset LX4 G q x.2 (oset LX10 G q1 st1 h))) := by
  refine mp_of (by decide +kernel) (Nat.le_of_ble_eq_true rfl) ?_
  intro p e s m below meth c X hr hlk hH hname ls hl
  dsimp only [f_X4_rankOver] at hF
  replace hl : lv_has ls 5 [(0, .ref (q 3)), (1, .ref (q1 5)), (2, .int a1)] := hl
  refine lv_iload_n X.x X.b (dk DX4_rankOver_0 0 rfl) rfl (lv_at hl 2 rfl) ?_
  refine lv_iconst (v := 2) X.x X.b (dk DX4_rankOver_0 1 rfl) (by decide) ?_
  refine lv_icmp_ne (tgt := 11) X.x X.b (dk DX4_rankOver_0 2 rfl) (by decide) (fun c1 => ?_) (fun c1 => ?_)
  · replace hF := if_f hF c1
    refine lv_iconst (v := 0) X.x X.b (dk DX4_rankOver_0 7 rfl) (by decide) ?_
    refine lv_istore_n (lv' := [(3, .int 0), (0, .ref (q 3)), (1, .ref (q1 5)), (2, .int a1)]) X.x X.b (dk DX4_rankOver_0 8 rfl) rfl hl (by decide) rfl (fun ls hl => ?_)
    replace hl : lv_has ls 5 [(0, .ref (q 3)), (1, .ref (q1 5)), (2, .int a1), (3, .int 0)] := lv_sub hl [1, 2, 3, 0] rfl
    obtain ⟨x26, e27, hF⟩ := bd hF
    replace hl : lv_has ls 5 [(0, .ref (q 3)), (1, .ref (q1 5)), (2, .int a1), (3, .int 0)] := lv_sub hl [0, 1, 2, 3] rfl
    refine w_X4_rankOver_13 hq hq1 ha X st1 a1 _ _ e27 _ _ _ hH hl (fun H locs ls hH hl => ?_)
    refine lv_iconst (v := 0) X.x X.b (dk DX4_rankOver_0 38 rfl) (by decide) ?_
    refine lv_istore_n (lv' := [(3, .int 0), (0, .ref (q 3)), (1, .ref (q1 5)), (2, .int a1)]) X.x X.b (dk DX4_rankOver_0 39 rfl) rfl hl (by decide) rfl (fun ls hl => ?_)
    replace hl : lv_has ls 5 [(0, .ref (q 3)), (1, .ref (q1 5)), (2, .int a1), (3, .int 0)] := lv_sub hl [1, 2, 3, 0] rfl
    refine lv_iconst (v := 0) X.x X.b (dk DX4_rankOver_0 40 rfl) (by decide) ?_
    refine lv_istore (lv' := [(4, .int 0), (0, .ref (q 3)), (1, .ref (q1 5)), (2, .int a1), (3, .int 0)]) X.x X.b (dk DX4_rankOver_0 41 rfl) hl (by decide) rfl (fun ls hl => ?_)
    replace hl : lv_has ls 5 [(0, .ref (q 3)), (1, .ref (q1 5)), (2, .int a1), (3, .int 0), (4, .int 0)] := lv_sub hl [1, 2, 3, 4, 0] rfl
    obtain ⟨x46, e47, hF⟩ := bd hF
    replace hl : lv_has ls 5 [(0, .ref (q 3)), (1, .ref (q1 5)), (2, .int a1), (3, .int 0), (4, .int 0)] := lv_sub hl [0, 1, 2, 3, 4] rfl
    obtain ⟨t48, v49⟩ := x46
    try dsimp only at hF
    refine w_X4_rankOver_76 hq hq1 ha X st1 a1 _ _ e47 _ _ _ hH hl (fun H locs ls hH hl => ?_)
    try dsimp only at hH hl
    refine lv_iload_n X.x X.b (dk DX4_rankOver_1 7 rfl) rfl (lv_at hl 0 rfl) ?_
    cases sm hF
    exact mr_iret X hr hlk hH ⟨rfl, rfl⟩ (dk DX4_rankOver_1 8 rfl)
  · replace hF := if_t hF c1
    refine lv_aload_n X.x X.b (dk DX4_rankOver_0 3 rfl) rfl (lv_at hl 0 rfl) ?_
    refine lv_aload_n X.x X.b (dk DX4_rankOver_0 4 rfl) rfl (lv_at hl 1 rfl) ?_
    obtain ⟨x50, e51, hF⟩ := bd hF
    refine mr_ci0 hH ⟨rfl, rfl⟩ (mr_runV (As := [.ref (q1 5)]) (rest := []) X hH (c_X4_reduce hq hq1 ha e51) ((oset_at hq (Nat.le_refl _) ohas_N).trans (congrArg some ocell_N)) OX4.1 kM_X4_24 kI_X4_reduce kS_X4_reduce kN_X4 kC_X4_reduce hd_X4_reduce ⟨Nat.le_of_ble_eq_true rfl, Nat.le_of_ble_eq_true rfl⟩ rfl hl.1 (Nat.le_of_ble_eq_true rfl) (dk DX4_rankOver_0 5 rfl) ⟨Nat.zero_le _, Nat.zero_le _⟩) (fun r h1 H locs hp hH => ?_)
    obtain ⟨hr1, hr2⟩ := hp; rw [hr1]; rw [hr2] at hH; clear hr1 hr2
    obtain ⟨v52, t53⟩ := x50
    try dsimp only at hF hH ⊢
    cases sm hF
    exact mr_iret X hr hlk hH ⟨rfl, rfl⟩ (dk DX4_rankOver_0 6 rfl)
-- X4_dimension
abbrev rm_X4_dimension : Room := { frames := 4, cells := 0, slots := 0, locals := 91 }
theorem hd_X4_dimension : mHd yX4_dimension 1 := ⟨by decide +kernel, by decide +kernel, by decide +kernel⟩
theorem DX4_dimension_0 : ∀ t ∈ ([(0, .aload_n 1, 1), (1, .getfield 36, 3), (4, .aload_n 0, 1), (5, .aload_n 1, 1), (6, .invokevirtual 24, 3), (9, .isub, 1), (10, .ireturn, 1)] : List (Nat × Instr × Nat)), decode cX4_dimension t.1 = .ok (t.2.1, t.2.2) := by decide +kernel
noncomputable def f_X4_dimension (st : OS) (st1 : OS) : Option (Int32 × OS) := (f_X4_reduce st st1).bind (fun x1 => match x1 with | (v3, t4) => some (((st1.1 0) - v3, t4)))
set_option maxHeartbeats 4000000 in
set_option maxRecDepth 100000 in
theorem c_X4_dimension {l : Launch} {G : mG} {h : mM} {q : Nat → Nat} {q1 : Nat → Nat} (hq : oinj LX4 q) (hq1 : oinj LX10 q1) (ha : oap [(LX4, q), (LX10, q1)]) {st : OS} {st1 : OS} {x : Int32 × OS} (hF : f_X4_dimension st st1 = some x) : cQ l G yX4_dimension cX4_dimension 2 (some FieldType.int) rm_X4_dimension [.ref (q 3), .ref (q1 5)] (oset LX4 G q st (oset LX10 G q1 st1 h)) (mQi G (fun r h1 => r = x.1 ∧ h1 = oset LX4 G q x.2 (oset LX10 G q1 st1 h))) := by
  refine mp_of (by decide +kernel) (Nat.le_of_ble_eq_true rfl) ?_
  intro p e s m below meth c X hr hlk hH hname ls hl
  dsimp only [f_X4_dimension] at hF
  replace hl : lv_has ls 2 [(0, .ref (q 3)), (1, .ref (q1 5))] := hl
  refine lv_aload_n X.x X.b (dk DX4_dimension_0 0 rfl) rfl (lv_at hl 1 rfl) ?_
  refine og_getIN OX10 X hq1 (mH_perm (l1 := [(LX4, q, st), (LX10, q1, st1)]) (l2 := [(LX10, q1, st1), (LX4, q, st)]) ha [1, 0] [1, 0] rfl rfl rfl hH) 0 (by decide) rfl kFN_X4_36 (dk DX4_dimension_0 1 rfl) ?_
  refine lv_aload_n X.x X.b (dk DX4_dimension_0 2 rfl) rfl (lv_at hl 0 rfl) ?_
  refine lv_aload_n X.x X.b (dk DX4_dimension_0 3 rfl) rfl (lv_at hl 1 rfl) ?_
  obtain ⟨x1, e2, hF⟩ := bd hF
  refine mr_ci0 hH ⟨rfl, rfl⟩ (mr_runV (As := [.ref (q1 5)]) (rest := [.int (st1.1 0)]) X hH (c_X4_reduce hq hq1 ha e2) ((oset_at hq (Nat.le_refl _) ohas_N).trans (congrArg some ocell_N)) OX4.1 kM_X4_24 kI_X4_reduce kS_X4_reduce kN_X4 kC_X4_reduce hd_X4_reduce ⟨Nat.le_of_ble_eq_true rfl, Nat.le_of_ble_eq_true rfl⟩ rfl hl.1 (Nat.le_of_ble_eq_true rfl) (dk DX4_dimension_0 4 rfl) ⟨Nat.zero_le _, Nat.zero_le _⟩) (fun r h1 H locs hp hH => ?_)
  obtain ⟨hr1, hr2⟩ := hp; rw [hr1]; rw [hr2] at hH; clear hr1 hr2
  obtain ⟨v3, t4⟩ := x1
  try dsimp only at hF hH ⊢
  refine lv_isub X.x X.b (dk DX4_dimension_0 5 rfl) ?_
  cases sm hF
  exact mr_iret X hr hlk hH ⟨rfl, rfl⟩ (dk DX4_dimension_0 6 rfl)
-- X4_fillBasis
abbrev rm_X4_fillBasis : Room := { frames := 1, cells := 0, slots := 0, locals := 22 }
theorem hd_X4_fillBasis : mHd yX4_fillBasis 1 := ⟨by decide +kernel, by decide +kernel, by decide +kernel⟩
theorem DX4_fillBasis_0 : ∀ t ∈ ([(0, .iconst 0, 1), (1, .istore_n 2, 1), (2, .iconst 0, 1), (3, .istore_n 3, 1), (4, .iload_n 3, 1), (5, .aload_n 1, 1), (6, .getfield 36, 3), (9, .if_icmp .ge 91, 3), (12, .iload_n 3, 1), (13, .bipush 64, 2), (15, .if_icmp .ge 85, 3), (18, .iload_n 2, 1), (19, .bipush 16, 2), (21, .if_icmp .ge 79, 3), (24, .aload_n 0, 1), (25, .getfield 17, 3), (28, .iload_n 3, 1), (29, .laload, 1), (30, .lconst 0, 1), (31, .lcmp, 1), (32, .ifCond .ne 62, 3), (35, .lconst 1, 1), (36, .iload_n 3, 1), (37, .lshl, 1), (38, .lstore 4, 2), (40, .iconst 0, 1), (41, .istore 6, 2), (43, .iload 6, 2), (45, .bipush 64, 2), (47, .if_icmp .ge 36, 3), (50, .lload 4, 2), (52, .aload_n 0, 1), (53, .getfield 17, 3), (56, .iload 6, 2), (58, .laload, 1), (59, .iload_n 3, 1), (60, .invokestatic 32, 3), (63, .ifCond .eq 10, 3), (66, .lconst 1, 1), (67, .iload 6, 2), (69, .lshl, 1), (70, .goto 4, 3), (73, .lconst 0, 1), (74, .lor, 1), (75, .lstore 4, 2), (77, .iinc 6 1, 3), (80, .goto (-37), 3), (83, .aload_n 0, 1), (84, .getfield 21, 3), (87, .iload_n 2, 1), (88, .lload 4, 2), (90, .lastore, 1), (91, .iinc 2 1, 3), (94, .iinc 3 1, 3), (97, .goto (-93), 3), (100, .return_, 1)] : List (Nat × Instr × Nat)), decode cX4_fillBasis t.1 = .ok (t.2.1, t.2.2) := by decide +kernel
noncomputable def f_X4_fillBasis_43 (s_t : OS) (s_o1 : OS) (b2 : Int32) (b3 : Int32) : (Int64 × Int32) → Option ((Int64 × Int32) ⊕ (Int64)) := fun z => match z with | (b4, b6) => (if 64 ≤ b6 then some (.inr b4) else if inb b6 64 = true then (f_X10_has (s_t.2.2.2 1 (b6 : Int32).toNatClampNeg) b3).bind (fun x12 => (if x12 = 0 then bnd (b4 ||| 0 : Int64) (fun v16 => bnd (b6 + 1 : Int32) (fun v18 => some (.inl ((v16, v18))))) else bnd (b4 ||| (((1 : Int64)) <<< ((b6 : Int32).toInt64 &&& 63)) : Int64) (fun v20 => bnd (b6 + 1 : Int32) (fun v22 => some (.inl ((v20, v22))))))) else none)
noncomputable def f_X4_fillBasis_4 (s_o1 : OS) : (OS × Int32 × Int32) → Option ((OS × Int32 × Int32) ⊕ (OS)) := fun z => match z with | (s_t, b2, b3) => (if (s_o1.1 0) ≤ b3 then some (.inr s_t) else (if 64 ≤ b3 then some (.inr s_t) else (if 16 ≤ b2 then some (.inr s_t) else if inb b3 64 = true then (if (lg_cmp (s_t.2.2.2 1 (b3 : Int32).toNatClampNeg) 0) = 0 then bnd (((1 : Int64)) <<< ((b3 : Int32).toInt64 &&& 63) : Int64) (fun v8 => (lpv (f_X4_fillBasis_43 s_t s_o1 b2 b3) ((v8, 0))).bind (fun x24 => if inb b2 16 = true then bnd (oB s_t 2 (vp_updL (s_t.2.2.2 2) (b2 : Int32).toNatClampNeg x24)) (fun t28 => bnd (b2 + 1 : Int32) (fun v30 => bnd (b3 + 1 : Int32) (fun v32 => some (.inl ((t28, v30, v32)))))) else none)) else bnd (b3 + 1 : Int32) (fun v6 => some (.inl ((s_t, b2, v6))))) else none)))
noncomputable def f_X4_fillBasis (st : OS) (st1 : OS) : Option (OS) := (lpv (f_X4_fillBasis_4 st1) ((st, 0, 0))).bind (fun x34 => some x34)
set_option maxHeartbeats 4000000 in
set_option maxRecDepth 100000 in
theorem w_X4_fillBasis_43 {p : Program} {l : Launch} {e : Env} {s : State} {m : MethodId} {args : Array Value} {below : List Frame} {meth : Method} {c : Code} {Q : State → Prop} {G : mG} {h : mM} {q : Nat → Nat} {q1 : Nat → Nat} (hq : oinj LX4 q) (hq1 : oinj LX10 q1) (ha : oap [(LX4, q), (LX10, q1)]) (X : mX G p m c cX4_fillBasis 7 s args RX4) (s_t : OS) (s_o1 : OS) (b2 : Int32) (b3 : Int32) : ∀ (z : Int64 × Int32) (r : Int64), lpv (f_X4_fillBasis_43 s_t s_o1 b2 b3) z = some r → ∀ (H : Heap) (locs : List Loc) (ls : Array Slot), mH G (oset LX4 G q s_t (oset LX10 G q1 s_o1 h)) s.heap H locs → lv_has ls 7 [(0, .ref (q 3)), (1, .ref (q1 5)), (2, .int b2), (3, .int b3), (4, .long z.1), (6, .int z.2)] → (∀ (H : Heap) (locs : List Loc) (ls : Array Slot), mH G (oset LX4 G q s_t (oset LX10 G q1 s_o1 h)) s.heap H locs → lv_has ls 7 [(0, .ref (q 3)), (1, .ref (q1 5)), (2, .int b2), (3, .int b3), (4, .long r)] → W p l e rm_X4_fillBasis s m args below meth c H locs 0 0 Q (F0 m 83 ls [])) → W p l e rm_X4_fillBasis s m args below meth c H locs 0 0 Q (F0 m 43 ls []) := by
  refine lpv_rec ?_
  intro z r x hF hx H locs ls hH hl K0
  obtain ⟨b4, b6⟩ := z
  dsimp only [f_X4_fillBasis_43] at hF
  try dsimp only at hH hl
  refine lv_iload X.x X.b (dk DX4_fillBasis_0 27 rfl) (lv_at hl 5 rfl) ?_
  refine lv_bipush (v := 64) X.x X.b (dk DX4_fillBasis_0 28 rfl) (by decide) ?_
  refine lv_icmp_ge (tgt := 83) X.x X.b (dk DX4_fillBasis_0 29 rfl) (by decide) (fun c10 => ?_) (fun c10 => ?_)
  · replace hF := if_t hF c10
    have hr9 := lp_r hF hx
    subst hr9
    exact K0 _ _ _ hH (lv_sub hl [0, 1, 2, 3, 4] rfl)
  · replace hF := if_f hF c10
    refine lv_lload X.x X.b (dk DX4_fillBasis_0 30 rfl) (lv_at hl 4 rfl) ?_
    refine lv_aload_n X.x X.b (dk DX4_fillBasis_0 31 rfl) rfl (lv_at hl 0 rfl) ?_
    refine og_getR (t := 1) OX4 X hq hH 1 (by decide) rfl kF_X4_17 (dk DX4_fillBasis_0 32 rfl) ?_
    refine lv_iload X.x X.b (dk DX4_fillBasis_0 33 rfl) (lv_at hl 5 rfl) ?_
    obtain ⟨c11, hF⟩ := gd hF
    refine og_lald X hq hH 1 (by decide) rfl (inb_in c11) (dk DX4_fillBasis_0 34 rfl) ?_
    refine lv_iload_n X.x X.b (dk DX4_fillBasis_0 35 rfl) rfl (lv_at hl 3 rfl) ?_
    obtain ⟨x12, e13, hF⟩ := bd hF
    refine mr_ci0 hH ⟨rfl, rfl⟩ (mr_runS (As := [.long (s_t.2.2.2 1 (b6 : Int32).toNatClampNeg), .int b3]) (rest := [.long b4]) X hH (c_X10_has e13) kM_X4_32 kT_X10_has kN_X10 kC_X10_has hd_X10_has ⟨Nat.le_of_ble_eq_true rfl, Nat.le_of_ble_eq_true rfl⟩ rfl hl.1 (Nat.le_of_ble_eq_true rfl) (dk DX4_fillBasis_0 36 rfl) ⟨Nat.zero_le _, Nat.zero_le _⟩) (fun r h1 H locs hp hH => ?_)
    obtain ⟨hr1, hr2⟩ := hp; rw [hr1]; rw [hr2] at hH; clear hr1 hr2
    refine lv_if_eq (tgt := 73) X.x X.b (dk DX4_fillBasis_0 37 rfl) (by decide) (fun c15 => ?_) (fun c15 => ?_)
    · replace hF := if_t hF c15
      refine lv_lconst (v := 0) X.x X.b (dk DX4_fillBasis_0 42 rfl) (by decide) ?_
      refine lv_lor X.x X.b (dk DX4_fillBasis_0 43 rfl) ?_
      refine lv_topl (fun v16 e17 => ?_)
      replace hF := bnd_e hF e17
      refine lv_lstore (lv' := [(4, .long v16), (0, .ref (q 3)), (1, .ref (q1 5)), (2, .int b2), (3, .int b3), (6, .int b6)]) X.x X.b (dk DX4_fillBasis_0 44 rfl) hl (by decide) rfl (fun ls hl => ?_)
      replace hl : lv_has ls 7 [(0, .ref (q 3)), (1, .ref (q1 5)), (2, .int b2), (3, .int b3), (4, .long v16), (6, .int b6)] := lv_sub hl [1, 2, 3, 4, 0, 5] rfl
      obtain ⟨v18, e19⟩ : ∃ y : Int32, y = b6 + 1 := ⟨_, rfl⟩
      replace hF := bnd_e hF e19
      refine lv_iinc (v := v18) (lv' := [(6, .int v18), (0, .ref (q 3)), (1, .ref (q1 5)), (2, .int b2), (3, .int b3), (4, .long v16)]) X.x X.b (dk DX4_fillBasis_0 45 rfl) hl (k := 5) rfl (by rw [e19]; rfl) (by decide) rfl (fun ls hl => ?_)
      replace hl : lv_has ls 7 [(0, .ref (q 3)), (1, .ref (q1 5)), (2, .int b2), (3, .int b3), (4, .long v16), (6, .int v18)] := lv_sub hl [1, 2, 3, 4, 5, 0] rfl
      refine lv_goto (tgt := 43) X.x X.b (dk DX4_fillBasis_0 46 rfl) (by decide) ?_
      exact (lp_l hF hx) _ _ _ hH (lv_sub hl [0, 1, 2, 3, 4, 5] rfl) K0
    · replace hF := if_f hF c15
      refine lv_lconst (v := 1) X.x X.b (dk DX4_fillBasis_0 38 rfl) (by decide) ?_
      refine lv_iload X.x X.b (dk DX4_fillBasis_0 39 rfl) (lv_at hl 5 rfl) ?_
      refine lv_lshl X.x X.b (dk DX4_fillBasis_0 40 rfl) rfl ?_
      refine lv_goto (tgt := 74) X.x X.b (dk DX4_fillBasis_0 41 rfl) (by decide) ?_
      refine lv_lor X.x X.b (dk DX4_fillBasis_0 43 rfl) ?_
      refine lv_topl (fun v20 e21 => ?_)
      replace hF := bnd_e hF e21
      refine lv_lstore (lv' := [(4, .long v20), (0, .ref (q 3)), (1, .ref (q1 5)), (2, .int b2), (3, .int b3), (6, .int b6)]) X.x X.b (dk DX4_fillBasis_0 44 rfl) hl (by decide) rfl (fun ls hl => ?_)
      replace hl : lv_has ls 7 [(0, .ref (q 3)), (1, .ref (q1 5)), (2, .int b2), (3, .int b3), (4, .long v20), (6, .int b6)] := lv_sub hl [1, 2, 3, 4, 0, 5] rfl
      obtain ⟨v22, e23⟩ : ∃ y : Int32, y = b6 + 1 := ⟨_, rfl⟩
      replace hF := bnd_e hF e23
      refine lv_iinc (v := v22) (lv' := [(6, .int v22), (0, .ref (q 3)), (1, .ref (q1 5)), (2, .int b2), (3, .int b3), (4, .long v20)]) X.x X.b (dk DX4_fillBasis_0 45 rfl) hl (k := 5) rfl (by rw [e23]; rfl) (by decide) rfl (fun ls hl => ?_)
      replace hl : lv_has ls 7 [(0, .ref (q 3)), (1, .ref (q1 5)), (2, .int b2), (3, .int b3), (4, .long v20), (6, .int v22)] := lv_sub hl [1, 2, 3, 4, 5, 0] rfl
      refine lv_goto (tgt := 43) X.x X.b (dk DX4_fillBasis_0 46 rfl) (by decide) ?_
      exact (lp_l hF hx) _ _ _ hH (lv_sub hl [0, 1, 2, 3, 4, 5] rfl) K0
set_option maxHeartbeats 4000000 in
set_option maxRecDepth 100000 in
theorem w_X4_fillBasis_4 {p : Program} {l : Launch} {e : Env} {s : State} {m : MethodId} {args : Array Value} {below : List Frame} {meth : Method} {c : Code} {Q : State → Prop} {G : mG} {h : mM} {q : Nat → Nat} {q1 : Nat → Nat} (hq : oinj LX4 q) (hq1 : oinj LX10 q1) (ha : oap [(LX4, q), (LX10, q1)]) (X : mX G p m c cX4_fillBasis 7 s args RX4) (s_o1 : OS) : ∀ (z : OS × Int32 × Int32) (r : OS), lpv (f_X4_fillBasis_4 s_o1) z = some r → ∀ (H : Heap) (locs : List Loc) (ls : Array Slot), mH G (oset LX4 G q z.1 (oset LX10 G q1 s_o1 h)) s.heap H locs → lv_has ls 7 [(0, .ref (q 3)), (1, .ref (q1 5)), (2, .int z.2.1), (3, .int z.2.2)] → (∀ (H : Heap) (locs : List Loc) (ls : Array Slot), mH G (oset LX4 G q r (oset LX10 G q1 s_o1 h)) s.heap H locs → lv_has ls 7 [] → W p l e rm_X4_fillBasis s m args below meth c H locs 0 0 Q (F0 m 100 ls [])) → W p l e rm_X4_fillBasis s m args below meth c H locs 0 0 Q (F0 m 4 ls []) := by
  refine lpv_rec ?_
  intro z r x hF hx H locs ls hH hl K0
  obtain ⟨s_t, b2, b3⟩ := z
  dsimp only [f_X4_fillBasis_4] at hF
  try dsimp only at hH hl
  refine lv_iload_n X.x X.b (dk DX4_fillBasis_0 4 rfl) rfl (lv_at hl 3 rfl) ?_
  refine lv_aload_n X.x X.b (dk DX4_fillBasis_0 5 rfl) rfl (lv_at hl 1 rfl) ?_
  refine og_getIN OX10 X hq1 (mH_perm (l1 := [(LX4, q, s_t), (LX10, q1, s_o1)]) (l2 := [(LX10, q1, s_o1), (LX4, q, s_t)]) ha [1, 0] [1, 0] rfl rfl rfl hH) 0 (by decide) rfl kFN_X4_36 (dk DX4_fillBasis_0 6 rfl) ?_
  refine lv_icmp_ge (tgt := 100) X.x X.b (dk DX4_fillBasis_0 7 rfl) (by decide) (fun c1 => ?_) (fun c1 => ?_)
  · replace hF := if_t hF c1
    have hr9 := lp_r hF hx
    subst hr9
    exact K0 _ _ _ hH (lv_sub hl [] rfl)
  · replace hF := if_f hF c1
    refine lv_iload_n X.x X.b (dk DX4_fillBasis_0 8 rfl) rfl (lv_at hl 3 rfl) ?_
    refine lv_bipush (v := 64) X.x X.b (dk DX4_fillBasis_0 9 rfl) (by decide) ?_
    refine lv_icmp_ge (tgt := 100) X.x X.b (dk DX4_fillBasis_0 10 rfl) (by decide) (fun c2 => ?_) (fun c2 => ?_)
    · replace hF := if_t hF c2
      have hr9 := lp_r hF hx
      subst hr9
      exact K0 _ _ _ hH (lv_sub hl [] rfl)
    · replace hF := if_f hF c2
      refine lv_iload_n X.x X.b (dk DX4_fillBasis_0 11 rfl) rfl (lv_at hl 2 rfl) ?_
      refine lv_bipush (v := 16) X.x X.b (dk DX4_fillBasis_0 12 rfl) (by decide) ?_
      refine lv_icmp_ge (tgt := 100) X.x X.b (dk DX4_fillBasis_0 13 rfl) (by decide) (fun c3 => ?_) (fun c3 => ?_)
      · replace hF := if_t hF c3
        have hr9 := lp_r hF hx
        subst hr9
        exact K0 _ _ _ hH (lv_sub hl [] rfl)
      · replace hF := if_f hF c3
        refine lv_aload_n X.x X.b (dk DX4_fillBasis_0 14 rfl) rfl (lv_at hl 0 rfl) ?_
        refine og_getR (t := 1) OX4 X hq hH 1 (by decide) rfl kF_X4_17 (dk DX4_fillBasis_0 15 rfl) ?_
        refine lv_iload_n X.x X.b (dk DX4_fillBasis_0 16 rfl) rfl (lv_at hl 3 rfl) ?_
        obtain ⟨c4, hF⟩ := gd hF
        refine og_lald X hq hH 1 (by decide) rfl (inb_in c4) (dk DX4_fillBasis_0 17 rfl) ?_
        refine lv_lconst (v := 0) X.x X.b (dk DX4_fillBasis_0 18 rfl) (by decide) ?_
        refine W.lcmp X.x X.b (dk DX4_fillBasis_0 19 rfl) ?_
        refine lv_if_ne (tgt := 94) X.x X.b (dk DX4_fillBasis_0 20 rfl) (by decide) (fun c5 => ?_) (fun c5 => ?_)
        · replace hF := if_f hF c5
          obtain ⟨v6, e7⟩ : ∃ y : Int32, y = b3 + 1 := ⟨_, rfl⟩
          replace hF := bnd_e hF e7
          refine lv_iinc (v := v6) (lv' := [(3, .int v6), (0, .ref (q 3)), (1, .ref (q1 5)), (2, .int b2)]) X.x X.b (dk DX4_fillBasis_0 53 rfl) hl (k := 3) rfl (by rw [e7]; rfl) (by decide) rfl (fun ls hl => ?_)
          replace hl : lv_has ls 7 [(0, .ref (q 3)), (1, .ref (q1 5)), (2, .int b2), (3, .int v6)] := lv_sub hl [1, 2, 3, 0] rfl
          refine lv_goto (tgt := 4) X.x X.b (dk DX4_fillBasis_0 54 rfl) (by decide) ?_
          exact (lp_l hF hx) _ _ _ hH (lv_sub hl [0, 1, 2, 3] rfl) K0
        · replace hF := if_t hF c5
          refine lv_lconst (v := 1) X.x X.b (dk DX4_fillBasis_0 21 rfl) (by decide) ?_
          refine lv_iload_n X.x X.b (dk DX4_fillBasis_0 22 rfl) rfl (lv_at hl 3 rfl) ?_
          refine lv_lshl X.x X.b (dk DX4_fillBasis_0 23 rfl) rfl ?_
          refine lv_topl (fun v8 e9 => ?_)
          replace hF := bnd_e hF e9
          refine lv_lstore (lv' := [(4, .long v8), (0, .ref (q 3)), (1, .ref (q1 5)), (2, .int b2), (3, .int b3)]) X.x X.b (dk DX4_fillBasis_0 24 rfl) hl (by decide) rfl (fun ls hl => ?_)
          replace hl : lv_has ls 7 [(0, .ref (q 3)), (1, .ref (q1 5)), (2, .int b2), (3, .int b3), (4, .long v8)] := lv_sub hl [1, 2, 3, 4, 0] rfl
          refine lv_iconst (v := 0) X.x X.b (dk DX4_fillBasis_0 25 rfl) (by decide) ?_
          refine lv_istore (lv' := [(6, .int 0), (0, .ref (q 3)), (1, .ref (q1 5)), (2, .int b2), (3, .int b3), (4, .long v8)]) X.x X.b (dk DX4_fillBasis_0 26 rfl) hl (by decide) rfl (fun ls hl => ?_)
          replace hl : lv_has ls 7 [(0, .ref (q 3)), (1, .ref (q1 5)), (2, .int b2), (3, .int b3), (4, .long v8), (6, .int 0)] := lv_sub hl [1, 2, 3, 4, 5, 0] rfl
          obtain ⟨x24, e25, hF⟩ := bd hF
          replace hl : lv_has ls 7 [(0, .ref (q 3)), (1, .ref (q1 5)), (2, .int b2), (3, .int b3), (4, .long v8), (6, .int 0)] := lv_sub hl [0, 1, 2, 3, 4, 5] rfl
          refine w_X4_fillBasis_43 hq hq1 ha X s_t s_o1 b2 b3 _ _ e25 _ _ _ hH hl (fun H locs ls hH hl => ?_)
          refine lv_aload_n X.x X.b (dk DX4_fillBasis_0 47 rfl) rfl (lv_at hl 0 rfl) ?_
          refine og_getR (t := 1) OX4 X hq hH 2 (by decide) rfl kF_X4_21 (dk DX4_fillBasis_0 48 rfl) ?_
          refine lv_iload_n X.x X.b (dk DX4_fillBasis_0 49 rfl) rfl (lv_at hl 2 rfl) ?_
          refine lv_lload X.x X.b (dk DX4_fillBasis_0 50 rfl) (lv_at hl 4 rfl) ?_
          obtain ⟨c27, hF⟩ := gd hF
          refine og_last X hq hH 2 (by decide) rfl (inb_in c27) (dk DX4_fillBasis_0 51 rfl) (fun H locs hH => ?_)
          obtain ⟨t28, e29⟩ : ∃ y, y = oB s_t 2 (vp_updL (s_t.2.2.2 2) (b2 : Int32).toNatClampNeg x24) := ⟨_, rfl⟩
          rw [← e29] at hH
          replace hF := bnd_e hF e29
          obtain ⟨v30, e31⟩ : ∃ y : Int32, y = b2 + 1 := ⟨_, rfl⟩
          replace hF := bnd_e hF e31
          refine lv_iinc (v := v30) (lv' := [(2, .int v30), (0, .ref (q 3)), (1, .ref (q1 5)), (3, .int b3), (4, .long x24)]) X.x X.b (dk DX4_fillBasis_0 52 rfl) hl (k := 2) rfl (by rw [e31]; rfl) (by decide) rfl (fun ls hl => ?_)
          replace hl : lv_has ls 7 [(0, .ref (q 3)), (1, .ref (q1 5)), (2, .int v30), (3, .int b3)] := lv_sub hl [1, 2, 0, 3] rfl
          obtain ⟨v32, e33⟩ : ∃ y : Int32, y = b3 + 1 := ⟨_, rfl⟩
          replace hF := bnd_e hF e33
          refine lv_iinc (v := v32) (lv' := [(3, .int v32), (0, .ref (q 3)), (1, .ref (q1 5)), (2, .int v30)]) X.x X.b (dk DX4_fillBasis_0 53 rfl) hl (k := 3) rfl (by rw [e33]; rfl) (by decide) rfl (fun ls hl => ?_)
          replace hl : lv_has ls 7 [(0, .ref (q 3)), (1, .ref (q1 5)), (2, .int v30), (3, .int v32)] := lv_sub hl [1, 2, 3, 0] rfl
          refine lv_goto (tgt := 4) X.x X.b (dk DX4_fillBasis_0 54 rfl) (by decide) ?_
          exact (lp_l hF hx) _ _ _ hH (lv_sub hl [0, 1, 2, 3] rfl) K0
set_option maxHeartbeats 4000000 in
set_option maxRecDepth 100000 in
theorem c_X4_fillBasis {l : Launch} {G : mG} {h : mM} {q : Nat → Nat} {q1 : Nat → Nat} (hq : oinj LX4 q) (hq1 : oinj LX10 q1) (ha : oap [(LX4, q), (LX10, q1)]) {st : OS} {st1 : OS} {x : OS} (hF : f_X4_fillBasis st st1 = some x) : cQ l G yX4_fillBasis cX4_fillBasis 7 none rm_X4_fillBasis [.ref (q 3), .ref (q1 5)] (oset LX4 G q st (oset LX10 G q1 st1 h)) (mQv G (fun h1 => h1 = oset LX4 G q x (oset LX10 G q1 st1 h))) := by
  refine mp_of (by decide +kernel) (Nat.le_of_ble_eq_true rfl) ?_
  intro p e s m below meth c X hr hlk hH hname ls hl
  dsimp only [f_X4_fillBasis] at hF
  replace hl : lv_has ls 7 [(0, .ref (q 3)), (1, .ref (q1 5))] := hl
  refine lv_iconst (v := 0) X.x X.b (dk DX4_fillBasis_0 0 rfl) (by decide) ?_
  refine lv_istore_n (lv' := [(2, .int 0), (0, .ref (q 3)), (1, .ref (q1 5))]) X.x X.b (dk DX4_fillBasis_0 1 rfl) rfl hl (by decide) rfl (fun ls hl => ?_)
  replace hl : lv_has ls 7 [(0, .ref (q 3)), (1, .ref (q1 5)), (2, .int 0)] := lv_sub hl [1, 2, 0] rfl
  refine lv_iconst (v := 0) X.x X.b (dk DX4_fillBasis_0 2 rfl) (by decide) ?_
  refine lv_istore_n (lv' := [(3, .int 0), (0, .ref (q 3)), (1, .ref (q1 5)), (2, .int 0)]) X.x X.b (dk DX4_fillBasis_0 3 rfl) rfl hl (by decide) rfl (fun ls hl => ?_)
  replace hl : lv_has ls 7 [(0, .ref (q 3)), (1, .ref (q1 5)), (2, .int 0), (3, .int 0)] := lv_sub hl [1, 2, 3, 0] rfl
  obtain ⟨x34, e35, hF⟩ := bd hF
  replace hl : lv_has ls 7 [(0, .ref (q 3)), (1, .ref (q1 5)), (2, .int 0), (3, .int 0)] := lv_sub hl [0, 1, 2, 3] rfl
  refine w_X4_fillBasis_4 hq hq1 ha X st1 _ _ e35 _ _ _ hH hl (fun H locs ls hH hl => ?_)
  cases sm hF
  exact mr_vret X hr hlk hH rfl (dk DX4_fillBasis_0 55 rfl)
-- X4_leastWord
abbrev rm_X4_leastWord : Room := { frames := 5, cells := 0, slots := 0, locals := 112 }
theorem hd_X4_leastWord : mHd yX4_leastWord 1 := ⟨by decide +kernel, by decide +kernel, by decide +kernel⟩
theorem DX4_leastWord_0 : ∀ t ∈ ([(0, .aload_n 0, 1), (1, .aload_n 1, 1), (2, .invokevirtual 67, 3), (5, .istore_n 2, 1), (6, .iload_n 2, 1), (7, .bipush 16, 2), (9, .if_icmp .le 6, 3), (12, .bipush (-2), 2), (14, .ireturn, 1), (15, .aload_n 0, 1), (16, .aload_n 1, 1), (17, .invokevirtual 70, 3), (20, .iconst (-1), 1), (21, .istore_n 3, 1), (22, .lconst 0, 1), (23, .lstore 4, 2), (25, .iconst 1, 1), (26, .istore 6, 2), (28, .iload 6, 2), (30, .iconst 1, 1), (31, .iload_n 2, 1), (32, .ishl, 1), (33, .if_icmp .ge 63, 3), (36, .iload 6, 2), (38, .invokestatic 74, 3), (41, .istore 7, 2), (43, .lload 4, 2), (45, .iload 7, 2), (47, .bipush 16, 2), (49, .if_icmp .ge 13, 3), (52, .aload_n 0, 1), (53, .getfield 21, 3), (56, .iload 7, 2), (58, .laload, 1), (59, .goto 4, 3), (62, .lconst 0, 1), (63, .lxor, 1), (64, .lstore 4, 2), (66, .lload 4, 2), (68, .invokestatic 80, 3), (71, .istore 8, 2), (73, .iload_n 3, 1), (74, .iconst (-1), 1), (75, .if_icmp .ne 8, 3), (78, .iload 8, 2), (80, .goto 9, 3), (83, .iload_n 3, 1), (84, .iload 8, 2), (86, .invokestatic 85, 3), (89, .istore_n 3, 1), (90, .iinc 6 1, 3), (93, .goto (-65), 3), (96, .iload_n 3, 1), (97, .ireturn, 1)] : List (Nat × Instr × Nat)), decode cX4_leastWord t.1 = .ok (t.2.1, t.2.2) := by decide +kernel
noncomputable def f_X4_leastWord_28 (s_t : OS) (s_o1 : OS) (b2 : Int32) : (Int32 × Int64 × Int32) → Option ((Int32 × Int64 × Int32) ⊕ (Int32)) := fun z => match z with | (b3, b4, b6) => (if ((1 : Int32) <<< (b2 &&& 31)) ≤ b6 then some (.inr b3) else (f_J6_numberOfTrailingZeros_0f7a4 b6).bind (fun x10 => (if 16 ≤ x10 then bnd (b4 ^^^ 0 : Int64) (fun v14 => (f_J13_bitCount_95d88 v14).bind (fun x16 => (if b3 = ((-1)) then bnd (b6 + 1 : Int32) (fun v25 => some (.inl ((x16, v14, v25)))) else (f_J9_min_7cf53 b3 x16).bind (fun x20 => bnd (b6 + 1 : Int32) (fun v23 => some (.inl ((x20, v14, v23)))))))) else if inb x10 16 = true then bnd (b4 ^^^ (s_t.2.2.2 2 (x10 : Int32).toNatClampNeg) : Int64) (fun v28 => (f_J13_bitCount_95d88 v28).bind (fun x30 => (if b3 = ((-1)) then bnd (b6 + 1 : Int32) (fun v39 => some (.inl ((x30, v28, v39)))) else (f_J9_min_7cf53 b3 x30).bind (fun x34 => bnd (b6 + 1 : Int32) (fun v37 => some (.inl ((x34, v28, v37)))))))) else none)))
noncomputable def f_X4_leastWord (st : OS) (st1 : OS) : Option (Int32 × OS) := (f_X4_dimension st st1).bind (fun x1 => match x1 with | (v3, t4) => (if v3 ≤ 16 then (f_X4_fillBasis t4 st1).bind (fun x6 => (lpv (f_X4_leastWord_28 x6 st1 v3) (((-1), 0, 1))).bind (fun x41 => some ((x41, x6)))) else some (((-2), t4))))
set_option maxHeartbeats 4000000 in
set_option maxRecDepth 100000 in
theorem w_X4_leastWord_28 {p : Program} {l : Launch} {e : Env} {s : State} {m : MethodId} {args : Array Value} {below : List Frame} {meth : Method} {c : Code} {Q : State → Prop} {G : mG} {h : mM} {q : Nat → Nat} {q1 : Nat → Nat} (hq : oinj LX4 q) (hq1 : oinj LX10 q1) (ha : oap [(LX4, q), (LX10, q1)]) (X : mX G p m c cX4_leastWord 9 s args RX4) (s_t : OS) (s_o1 : OS) (b2 : Int32) : ∀ (z : Int32 × Int64 × Int32) (r : Int32), lpv (f_X4_leastWord_28 s_t s_o1 b2) z = some r → ∀ (H : Heap) (locs : List Loc) (ls : Array Slot), mH G (oset LX4 G q s_t (oset LX10 G q1 s_o1 h)) s.heap H locs → lv_has ls 9 [(0, .ref (q 3)), (2, .int b2), (3, .int z.1), (4, .long z.2.1), (6, .int z.2.2)] → (∀ (H : Heap) (locs : List Loc) (ls : Array Slot), mH G (oset LX4 G q s_t (oset LX10 G q1 s_o1 h)) s.heap H locs → lv_has ls 9 [(3, .int r)] → W p l e rm_X4_leastWord s m args below meth c H locs 0 0 Q (F0 m 96 ls [])) → W p l e rm_X4_leastWord s m args below meth c H locs 0 0 Q (F0 m 28 ls []) := by
  refine lpv_rec ?_
  intro z r x hF hx H locs ls hH hl K0
  obtain ⟨b3, b4, b6⟩ := z
  dsimp only [f_X4_leastWord_28] at hF
  try dsimp only at hH hl
  refine lv_iload X.x X.b (dk DX4_leastWord_0 18 rfl) (lv_at hl 4 rfl) ?_
  refine lv_iconst (v := 1) X.x X.b (dk DX4_leastWord_0 19 rfl) (by decide) ?_
  refine lv_iload_n X.x X.b (dk DX4_leastWord_0 20 rfl) rfl (lv_at hl 1 rfl) ?_
  refine lv_ishl X.x X.b (dk DX4_leastWord_0 21 rfl) ?_
  refine lv_icmp_ge (tgt := 96) X.x X.b (dk DX4_leastWord_0 22 rfl) (by decide) (fun c9 => ?_) (fun c9 => ?_)
  · replace hF := if_t hF c9
    have hr9 := lp_r hF hx
    subst hr9
    exact K0 _ _ _ hH (lv_sub hl [2] rfl)
  · replace hF := if_f hF c9
    refine lv_iload X.x X.b (dk DX4_leastWord_0 23 rfl) (lv_at hl 4 rfl) ?_
    obtain ⟨x10, e11, hF⟩ := bd hF
    refine mr_ci0 hH ⟨rfl, rfl⟩ (mr_runS (As := [.int b6]) (rest := []) X hH (c_J6_numberOfTrailingZeros_0f7a4 e11) kM_X4_74 kT_J6_numberOfTrailingZeros_0f7a4 kN_J6 kC_J6_numberOfTrailingZeros_0f7a4 hd_J6_numberOfTrailingZeros_0f7a4 ⟨Nat.le_of_ble_eq_true rfl, Nat.le_of_ble_eq_true rfl⟩ rfl hl.1 (Nat.le_of_ble_eq_true rfl) (dk DX4_leastWord_0 24 rfl) ⟨Nat.zero_le _, Nat.zero_le _⟩) (fun r h1 H locs hp hH => ?_)
    obtain ⟨hr1, hr2⟩ := hp; rw [hr1]; rw [hr2] at hH; clear hr1 hr2
    refine lv_istore (lv' := [(7, .int x10), (0, .ref (q 3)), (2, .int b2), (3, .int b3), (4, .long b4), (6, .int b6)]) X.x X.b (dk DX4_leastWord_0 25 rfl) hl (by decide) rfl (fun ls hl => ?_)
    replace hl : lv_has ls 9 [(0, .ref (q 3)), (2, .int b2), (3, .int b3), (4, .long b4), (6, .int b6), (7, .int x10)] := lv_sub hl [1, 2, 3, 4, 5, 0] rfl
    refine lv_lload X.x X.b (dk DX4_leastWord_0 26 rfl) (lv_at hl 3 rfl) ?_
    refine lv_iload X.x X.b (dk DX4_leastWord_0 27 rfl) (lv_at hl 5 rfl) ?_
    refine lv_bipush (v := 16) X.x X.b (dk DX4_leastWord_0 28 rfl) (by decide) ?_
    refine lv_icmp_ge (tgt := 62) X.x X.b (dk DX4_leastWord_0 29 rfl) (by decide) (fun c13 => ?_) (fun c13 => ?_)
    · replace hF := if_t hF c13
      refine lv_lconst (v := 0) X.x X.b (dk DX4_leastWord_0 35 rfl) (by decide) ?_
      refine lv_lxor X.x X.b (dk DX4_leastWord_0 36 rfl) ?_
      refine lv_topl (fun v14 e15 => ?_)
      replace hF := bnd_e hF e15
      refine lv_lstore (lv' := [(4, .long v14), (0, .ref (q 3)), (2, .int b2), (3, .int b3), (6, .int b6), (7, .int x10)]) X.x X.b (dk DX4_leastWord_0 37 rfl) hl (by decide) rfl (fun ls hl => ?_)
      replace hl : lv_has ls 9 [(0, .ref (q 3)), (2, .int b2), (3, .int b3), (4, .long v14), (6, .int b6)] := lv_sub hl [1, 2, 3, 0, 4] rfl
      refine lv_lload X.x X.b (dk DX4_leastWord_0 38 rfl) (lv_at hl 3 rfl) ?_
      obtain ⟨x16, e17, hF⟩ := bd hF
      refine mr_ci0 hH ⟨rfl, rfl⟩ (mr_runS (As := [.long v14]) (rest := []) X hH (c_J13_bitCount_95d88 e17) kM_X4_80 kT_J13_bitCount_95d88 kN_J13 kC_J13_bitCount_95d88 hd_J13_bitCount_95d88 ⟨Nat.le_of_ble_eq_true rfl, Nat.le_of_ble_eq_true rfl⟩ rfl hl.1 (Nat.le_of_ble_eq_true rfl) (dk DX4_leastWord_0 39 rfl) ⟨Nat.zero_le _, Nat.zero_le _⟩) (fun r h1 H locs hp hH => ?_)
      obtain ⟨hr1, hr2⟩ := hp; rw [hr1]; rw [hr2] at hH; clear hr1 hr2
      refine lv_istore (lv' := [(8, .int x16), (0, .ref (q 3)), (2, .int b2), (3, .int b3), (4, .long v14), (6, .int b6)]) X.x X.b (dk DX4_leastWord_0 40 rfl) hl (by decide) rfl (fun ls hl => ?_)
      replace hl : lv_has ls 9 [(0, .ref (q 3)), (2, .int b2), (3, .int b3), (4, .long v14), (6, .int b6), (8, .int x16)] := lv_sub hl [1, 2, 3, 4, 5, 0] rfl
      refine lv_iload_n X.x X.b (dk DX4_leastWord_0 41 rfl) rfl (lv_at hl 2 rfl) ?_
      refine lv_iconst (v := (-1)) X.x X.b (dk DX4_leastWord_0 42 rfl) (by decide) ?_
      refine lv_icmp_ne (tgt := 83) X.x X.b (dk DX4_leastWord_0 43 rfl) (by decide) (fun c19 => ?_) (fun c19 => ?_)
      · replace hF := if_f hF c19
        refine lv_iload_n X.x X.b (dk DX4_leastWord_0 46 rfl) rfl (lv_at hl 2 rfl) ?_
        refine lv_iload X.x X.b (dk DX4_leastWord_0 47 rfl) (lv_at hl 5 rfl) ?_
        obtain ⟨x20, e21, hF⟩ := bd hF
        refine mr_ci0 hH ⟨rfl, rfl⟩ (mr_runS (As := [.int b3, .int x16]) (rest := []) X hH (c_J9_min_7cf53 e21) kM_X4_85 kT_J9_min_7cf53 kN_J9 kC_J9_min_7cf53 hd_J9_min_7cf53 ⟨Nat.le_of_ble_eq_true rfl, Nat.le_of_ble_eq_true rfl⟩ rfl hl.1 (Nat.le_of_ble_eq_true rfl) (dk DX4_leastWord_0 48 rfl) ⟨Nat.zero_le _, Nat.zero_le _⟩) (fun r h1 H locs hp hH => ?_)
        obtain ⟨hr1, hr2⟩ := hp; rw [hr1]; rw [hr2] at hH; clear hr1 hr2
        refine lv_istore_n (lv' := [(3, .int x20), (0, .ref (q 3)), (2, .int b2), (4, .long v14), (6, .int b6), (8, .int x16)]) X.x X.b (dk DX4_leastWord_0 49 rfl) rfl hl (by decide) rfl (fun ls hl => ?_)
        replace hl : lv_has ls 9 [(0, .ref (q 3)), (2, .int b2), (3, .int x20), (4, .long v14), (6, .int b6)] := lv_sub hl [1, 2, 0, 3, 4] rfl
        obtain ⟨v23, e24⟩ : ∃ y : Int32, y = b6 + 1 := ⟨_, rfl⟩
        replace hF := bnd_e hF e24
        refine lv_iinc (v := v23) (lv' := [(6, .int v23), (0, .ref (q 3)), (2, .int b2), (3, .int x20), (4, .long v14)]) X.x X.b (dk DX4_leastWord_0 50 rfl) hl (k := 4) rfl (by rw [e24]; rfl) (by decide) rfl (fun ls hl => ?_)
        replace hl : lv_has ls 9 [(0, .ref (q 3)), (2, .int b2), (3, .int x20), (4, .long v14), (6, .int v23)] := lv_sub hl [1, 2, 3, 4, 0] rfl
        refine lv_goto (tgt := 28) X.x X.b (dk DX4_leastWord_0 51 rfl) (by decide) ?_
        exact (lp_l hF hx) _ _ _ hH (lv_sub hl [0, 1, 2, 3, 4] rfl) K0
      · replace hF := if_t hF c19
        refine lv_iload X.x X.b (dk DX4_leastWord_0 44 rfl) (lv_at hl 5 rfl) ?_
        refine lv_goto (tgt := 89) X.x X.b (dk DX4_leastWord_0 45 rfl) (by decide) ?_
        refine lv_istore_n (lv' := [(3, .int x16), (0, .ref (q 3)), (2, .int b2), (4, .long v14), (6, .int b6), (8, .int x16)]) X.x X.b (dk DX4_leastWord_0 49 rfl) rfl hl (by decide) rfl (fun ls hl => ?_)
        replace hl : lv_has ls 9 [(0, .ref (q 3)), (2, .int b2), (3, .int x16), (4, .long v14), (6, .int b6)] := lv_sub hl [1, 2, 0, 3, 4] rfl
        obtain ⟨v25, e26⟩ : ∃ y : Int32, y = b6 + 1 := ⟨_, rfl⟩
        replace hF := bnd_e hF e26
        refine lv_iinc (v := v25) (lv' := [(6, .int v25), (0, .ref (q 3)), (2, .int b2), (3, .int x16), (4, .long v14)]) X.x X.b (dk DX4_leastWord_0 50 rfl) hl (k := 4) rfl (by rw [e26]; rfl) (by decide) rfl (fun ls hl => ?_)
        replace hl : lv_has ls 9 [(0, .ref (q 3)), (2, .int b2), (3, .int x16), (4, .long v14), (6, .int v25)] := lv_sub hl [1, 2, 3, 4, 0] rfl
        refine lv_goto (tgt := 28) X.x X.b (dk DX4_leastWord_0 51 rfl) (by decide) ?_
        exact (lp_l hF hx) _ _ _ hH (lv_sub hl [0, 1, 2, 3, 4] rfl) K0
    · replace hF := if_f hF c13
      refine lv_aload_n X.x X.b (dk DX4_leastWord_0 30 rfl) rfl (lv_at hl 0 rfl) ?_
      refine og_getR (t := 1) OX4 X hq hH 2 (by decide) rfl kF_X4_21 (dk DX4_leastWord_0 31 rfl) ?_
      refine lv_iload X.x X.b (dk DX4_leastWord_0 32 rfl) (lv_at hl 5 rfl) ?_
      obtain ⟨c27, hF⟩ := gd hF
      refine og_lald X hq hH 2 (by decide) rfl (inb_in c27) (dk DX4_leastWord_0 33 rfl) ?_
      refine lv_goto (tgt := 63) X.x X.b (dk DX4_leastWord_0 34 rfl) (by decide) ?_
      refine lv_lxor X.x X.b (dk DX4_leastWord_0 36 rfl) ?_
      refine lv_topl (fun v28 e29 => ?_)
      replace hF := bnd_e hF e29
      refine lv_lstore (lv' := [(4, .long v28), (0, .ref (q 3)), (2, .int b2), (3, .int b3), (6, .int b6), (7, .int x10)]) X.x X.b (dk DX4_leastWord_0 37 rfl) hl (by decide) rfl (fun ls hl => ?_)
      replace hl : lv_has ls 9 [(0, .ref (q 3)), (2, .int b2), (3, .int b3), (4, .long v28), (6, .int b6)] := lv_sub hl [1, 2, 3, 0, 4] rfl
      refine lv_lload X.x X.b (dk DX4_leastWord_0 38 rfl) (lv_at hl 3 rfl) ?_
      obtain ⟨x30, e31, hF⟩ := bd hF
      refine mr_ci0 hH ⟨rfl, rfl⟩ (mr_runS (As := [.long v28]) (rest := []) X hH (c_J13_bitCount_95d88 e31) kM_X4_80 kT_J13_bitCount_95d88 kN_J13 kC_J13_bitCount_95d88 hd_J13_bitCount_95d88 ⟨Nat.le_of_ble_eq_true rfl, Nat.le_of_ble_eq_true rfl⟩ rfl hl.1 (Nat.le_of_ble_eq_true rfl) (dk DX4_leastWord_0 39 rfl) ⟨Nat.zero_le _, Nat.zero_le _⟩) (fun r h1 H locs hp hH => ?_)
      obtain ⟨hr1, hr2⟩ := hp; rw [hr1]; rw [hr2] at hH; clear hr1 hr2
      refine lv_istore (lv' := [(8, .int x30), (0, .ref (q 3)), (2, .int b2), (3, .int b3), (4, .long v28), (6, .int b6)]) X.x X.b (dk DX4_leastWord_0 40 rfl) hl (by decide) rfl (fun ls hl => ?_)
      replace hl : lv_has ls 9 [(0, .ref (q 3)), (2, .int b2), (3, .int b3), (4, .long v28), (6, .int b6), (8, .int x30)] := lv_sub hl [1, 2, 3, 4, 5, 0] rfl
      refine lv_iload_n X.x X.b (dk DX4_leastWord_0 41 rfl) rfl (lv_at hl 2 rfl) ?_
      refine lv_iconst (v := (-1)) X.x X.b (dk DX4_leastWord_0 42 rfl) (by decide) ?_
      refine lv_icmp_ne (tgt := 83) X.x X.b (dk DX4_leastWord_0 43 rfl) (by decide) (fun c33 => ?_) (fun c33 => ?_)
      · replace hF := if_f hF c33
        refine lv_iload_n X.x X.b (dk DX4_leastWord_0 46 rfl) rfl (lv_at hl 2 rfl) ?_
        refine lv_iload X.x X.b (dk DX4_leastWord_0 47 rfl) (lv_at hl 5 rfl) ?_
        obtain ⟨x34, e35, hF⟩ := bd hF
        refine mr_ci0 hH ⟨rfl, rfl⟩ (mr_runS (As := [.int b3, .int x30]) (rest := []) X hH (c_J9_min_7cf53 e35) kM_X4_85 kT_J9_min_7cf53 kN_J9 kC_J9_min_7cf53 hd_J9_min_7cf53 ⟨Nat.le_of_ble_eq_true rfl, Nat.le_of_ble_eq_true rfl⟩ rfl hl.1 (Nat.le_of_ble_eq_true rfl) (dk DX4_leastWord_0 48 rfl) ⟨Nat.zero_le _, Nat.zero_le _⟩) (fun r h1 H locs hp hH => ?_)
        obtain ⟨hr1, hr2⟩ := hp; rw [hr1]; rw [hr2] at hH; clear hr1 hr2
        refine lv_istore_n (lv' := [(3, .int x34), (0, .ref (q 3)), (2, .int b2), (4, .long v28), (6, .int b6), (8, .int x30)]) X.x X.b (dk DX4_leastWord_0 49 rfl) rfl hl (by decide) rfl (fun ls hl => ?_)
        replace hl : lv_has ls 9 [(0, .ref (q 3)), (2, .int b2), (3, .int x34), (4, .long v28), (6, .int b6)] := lv_sub hl [1, 2, 0, 3, 4] rfl
        obtain ⟨v37, e38⟩ : ∃ y : Int32, y = b6 + 1 := ⟨_, rfl⟩
        replace hF := bnd_e hF e38
        refine lv_iinc (v := v37) (lv' := [(6, .int v37), (0, .ref (q 3)), (2, .int b2), (3, .int x34), (4, .long v28)]) X.x X.b (dk DX4_leastWord_0 50 rfl) hl (k := 4) rfl (by rw [e38]; rfl) (by decide) rfl (fun ls hl => ?_)
        replace hl : lv_has ls 9 [(0, .ref (q 3)), (2, .int b2), (3, .int x34), (4, .long v28), (6, .int v37)] := lv_sub hl [1, 2, 3, 4, 0] rfl
        refine lv_goto (tgt := 28) X.x X.b (dk DX4_leastWord_0 51 rfl) (by decide) ?_
        exact (lp_l hF hx) _ _ _ hH (lv_sub hl [0, 1, 2, 3, 4] rfl) K0
      · replace hF := if_t hF c33
        refine lv_iload X.x X.b (dk DX4_leastWord_0 44 rfl) (lv_at hl 5 rfl) ?_
        refine lv_goto (tgt := 89) X.x X.b (dk DX4_leastWord_0 45 rfl) (by decide) ?_
        refine lv_istore_n (lv' := [(3, .int x30), (0, .ref (q 3)), (2, .int b2), (4, .long v28), (6, .int b6), (8, .int x30)]) X.x X.b (dk DX4_leastWord_0 49 rfl) rfl hl (by decide) rfl (fun ls hl => ?_)
        replace hl : lv_has ls 9 [(0, .ref (q 3)), (2, .int b2), (3, .int x30), (4, .long v28), (6, .int b6)] := lv_sub hl [1, 2, 0, 3, 4] rfl
        obtain ⟨v39, e40⟩ : ∃ y : Int32, y = b6 + 1 := ⟨_, rfl⟩
        replace hF := bnd_e hF e40
        refine lv_iinc (v := v39) (lv' := [(6, .int v39), (0, .ref (q 3)), (2, .int b2), (3, .int x30), (4, .long v28)]) X.x X.b (dk DX4_leastWord_0 50 rfl) hl (k := 4) rfl (by rw [e40]; rfl) (by decide) rfl (fun ls hl => ?_)
        replace hl : lv_has ls 9 [(0, .ref (q 3)), (2, .int b2), (3, .int x30), (4, .long v28), (6, .int v39)] := lv_sub hl [1, 2, 3, 4, 0] rfl
        refine lv_goto (tgt := 28) X.x X.b (dk DX4_leastWord_0 51 rfl) (by decide) ?_
        exact (lp_l hF hx) _ _ _ hH (lv_sub hl [0, 1, 2, 3, 4] rfl) K0
set_option maxHeartbeats 4000000 in
set_option maxRecDepth 100000 in
theorem c_X4_leastWord {l : Launch} {G : mG} {h : mM} {q : Nat → Nat} {q1 : Nat → Nat} (hq : oinj LX4 q) (hq1 : oinj LX10 q1) (ha : oap [(LX4, q), (LX10, q1)]) {st : OS} {st1 : OS} {x : Int32 × OS} (hF : f_X4_leastWord st st1 = some x) : cQ l G yX4_leastWord cX4_leastWord 9 (some FieldType.int) rm_X4_leastWord [.ref (q 3), .ref (q1 5)] (oset LX4 G q st (oset LX10 G q1 st1 h)) (mQi G (fun r h1 => r = x.1 ∧ h1 = oset LX4 G q x.2 (oset LX10 G q1 st1 h))) := by
  refine mp_of (by decide +kernel) (Nat.le_of_ble_eq_true rfl) ?_
  intro p e s m below meth c X hr hlk hH hname ls hl
  dsimp only [f_X4_leastWord] at hF
  replace hl : lv_has ls 9 [(0, .ref (q 3)), (1, .ref (q1 5))] := hl
  refine lv_aload_n X.x X.b (dk DX4_leastWord_0 0 rfl) rfl (lv_at hl 0 rfl) ?_
  refine lv_aload_n X.x X.b (dk DX4_leastWord_0 1 rfl) rfl (lv_at hl 1 rfl) ?_
  obtain ⟨x1, e2, hF⟩ := bd hF
  refine mr_ci0 hH ⟨rfl, rfl⟩ (mr_runV (As := [.ref (q1 5)]) (rest := []) X hH (c_X4_dimension hq hq1 ha e2) ((oset_at hq (Nat.le_refl _) ohas_N).trans (congrArg some ocell_N)) OX4.1 kM_X4_67 kI_X4_dimension kS_X4_dimension kN_X4 kC_X4_dimension hd_X4_dimension ⟨Nat.le_of_ble_eq_true rfl, Nat.le_of_ble_eq_true rfl⟩ rfl hl.1 (Nat.le_of_ble_eq_true rfl) (dk DX4_leastWord_0 2 rfl) ⟨Nat.zero_le _, Nat.zero_le _⟩) (fun r h1 H locs hp hH => ?_)
  obtain ⟨hr1, hr2⟩ := hp; rw [hr1]; rw [hr2] at hH; clear hr1 hr2
  obtain ⟨v3, t4⟩ := x1
  try dsimp only at hF hH ⊢
  refine lv_istore_n (lv' := [(2, .int v3), (0, .ref (q 3)), (1, .ref (q1 5))]) X.x X.b (dk DX4_leastWord_0 3 rfl) rfl hl (by decide) rfl (fun ls hl => ?_)
  replace hl : lv_has ls 9 [(0, .ref (q 3)), (1, .ref (q1 5)), (2, .int v3)] := lv_sub hl [1, 2, 0] rfl
  refine lv_iload_n X.x X.b (dk DX4_leastWord_0 4 rfl) rfl (lv_at hl 2 rfl) ?_
  refine lv_bipush (v := 16) X.x X.b (dk DX4_leastWord_0 5 rfl) (by decide) ?_
  refine lv_icmp_le (tgt := 15) X.x X.b (dk DX4_leastWord_0 6 rfl) (by decide) (fun c5 => ?_) (fun c5 => ?_)
  · replace hF := if_t hF c5
    refine lv_aload_n X.x X.b (dk DX4_leastWord_0 9 rfl) rfl (lv_at hl 0 rfl) ?_
    refine lv_aload_n X.x X.b (dk DX4_leastWord_0 10 rfl) rfl (lv_at hl 1 rfl) ?_
    obtain ⟨x6, e7, hF⟩ := bd hF
    refine mr_cv0 hH ⟨rfl, rfl⟩ (mr_runV (As := [.ref (q1 5)]) (rest := []) X hH (c_X4_fillBasis hq hq1 ha e7) ((oset_at hq (Nat.le_refl _) ohas_N).trans (congrArg some ocell_N)) OX4.1 kM_X4_70 kI_X4_fillBasis kS_X4_fillBasis kN_X4 kC_X4_fillBasis hd_X4_fillBasis ⟨Nat.le_of_ble_eq_true rfl, Nat.le_of_ble_eq_true rfl⟩ rfl hl.1 (Nat.le_of_ble_eq_true rfl) (dk DX4_leastWord_0 11 rfl) ⟨Nat.zero_le _, Nat.zero_le _⟩) (fun h1 H locs hp hH => ?_)
    rw [hp] at hH; clear hp
    refine lv_iconst (v := (-1)) X.x X.b (dk DX4_leastWord_0 12 rfl) (by decide) ?_
    refine lv_istore_n (lv' := [(3, .int ((-1))), (0, .ref (q 3)), (1, .ref (q1 5)), (2, .int v3)]) X.x X.b (dk DX4_leastWord_0 13 rfl) rfl hl (by decide) rfl (fun ls hl => ?_)
    replace hl : lv_has ls 9 [(0, .ref (q 3)), (2, .int v3), (3, .int ((-1)))] := lv_sub hl [1, 3, 0] rfl
    refine lv_lconst (v := 0) X.x X.b (dk DX4_leastWord_0 14 rfl) (by decide) ?_
    refine lv_lstore (lv' := [(4, .long 0), (0, .ref (q 3)), (2, .int v3), (3, .int ((-1)))]) X.x X.b (dk DX4_leastWord_0 15 rfl) hl (by decide) rfl (fun ls hl => ?_)
    replace hl : lv_has ls 9 [(0, .ref (q 3)), (2, .int v3), (3, .int ((-1))), (4, .long 0)] := lv_sub hl [1, 2, 3, 0] rfl
    refine lv_iconst (v := 1) X.x X.b (dk DX4_leastWord_0 16 rfl) (by decide) ?_
    refine lv_istore (lv' := [(6, .int 1), (0, .ref (q 3)), (2, .int v3), (3, .int ((-1))), (4, .long 0)]) X.x X.b (dk DX4_leastWord_0 17 rfl) hl (by decide) rfl (fun ls hl => ?_)
    replace hl : lv_has ls 9 [(0, .ref (q 3)), (2, .int v3), (3, .int ((-1))), (4, .long 0), (6, .int 1)] := lv_sub hl [1, 2, 3, 4, 0] rfl
    obtain ⟨x41, e42, hF⟩ := bd hF
    replace hl : lv_has ls 9 [(0, .ref (q 3)), (2, .int v3), (3, .int ((-1))), (4, .long 0), (6, .int 1)] := lv_sub hl [0, 1, 2, 3, 4] rfl
    refine w_X4_leastWord_28 hq hq1 ha X x6 st1 v3 _ _ e42 _ _ _ hH hl (fun H locs ls hH hl => ?_)
    refine lv_iload_n X.x X.b (dk DX4_leastWord_0 52 rfl) rfl (lv_at hl 0 rfl) ?_
    cases sm hF
    exact mr_iret X hr hlk hH ⟨rfl, rfl⟩ (dk DX4_leastWord_0 53 rfl)
  · replace hF := if_f hF c5
    refine lv_bipush (v := (-2)) X.x X.b (dk DX4_leastWord_0 7 rfl) (by decide) ?_
    cases sm hF
    exact mr_iret X hr hlk hH ⟨rfl, rfl⟩ (dk DX4_leastWord_0 8 rfl)
-- X5_hasRoomFor
abbrev rm_X5_hasRoomFor : Room := { frames := 0, cells := 0, slots := 0, locals := 0 }
theorem hd_X5_hasRoomFor : mHd yX5_hasRoomFor 1 := ⟨by decide +kernel, by decide +kernel, by decide +kernel⟩
theorem DX5_hasRoomFor_0 : ∀ t ∈ ([(0, .aload_n 0, 1), (1, .getfield 26, 3), (4, .iload_n 1, 1), (5, .iadd, 1), (6, .sipush 700, 3), (9, .if_icmp .gt 7, 3), (12, .iconst 1, 1), (13, .goto 4, 3), (16, .iconst 0, 1), (17, .ireturn, 1)] : List (Nat × Instr × Nat)), decode cX5_hasRoomFor t.1 = .ok (t.2.1, t.2.2) := by decide +kernel
noncomputable def f_X5_hasRoomFor (st : OS) (st_mk : OS) (a0 : Int32) : Option (Int32) := (if 700 < (st.1 2) + a0 then some 0 else some 1)
set_option maxHeartbeats 4000000 in
set_option maxRecDepth 100000 in
theorem c_X5_hasRoomFor {l : Launch} {G : mG} {h : mM} {q : Nat → Nat} {q_mk : Nat → Nat} (hq : oinj LX5 q) (hq_mk : oinj LX3 q_mk) (ha : oap [(LX5, q), (LX3, q_mk)]) (lk_mk : q 0 = q_mk 3) {st : OS} {st_mk : OS} {a0 : Int32} {x : Int32} (hF : f_X5_hasRoomFor st st_mk a0 = some x) : cQ l G yX5_hasRoomFor cX5_hasRoomFor 2 (some FieldType.boolean) rm_X5_hasRoomFor [.ref (q 10), .int a0] (oset LX5 G q st (oset LX3 G q_mk st_mk h)) (mQi G (fun r h1 => r = x ∧ h1 = oset LX5 G q st (oset LX3 G q_mk st_mk h))) := by
  refine mp_of (by decide +kernel) (Nat.le_of_ble_eq_true rfl) ?_
  intro p e s m below meth c X hr hlk hH hname ls hl
  dsimp only [f_X5_hasRoomFor] at hF
  replace hl : lv_has ls 2 [(0, .ref (q 10)), (1, .int a0)] := hl
  refine lv_aload_n X.x X.b (dk DX5_hasRoomFor_0 0 rfl) rfl (lv_at hl 0 rfl) ?_
  refine og_getI OX5 X hq hH 2 (by decide) rfl kF_X5_26 (dk DX5_hasRoomFor_0 1 rfl) ?_
  refine lv_iload_n X.x X.b (dk DX5_hasRoomFor_0 2 rfl) rfl (lv_at hl 1 rfl) ?_
  refine lv_iadd X.x X.b (dk DX5_hasRoomFor_0 3 rfl) ?_
  refine lv_sipush (v := 700) X.x X.b (dk DX5_hasRoomFor_0 4 rfl) (by decide) ?_
  refine lv_icmp_gt (tgt := 16) X.x X.b (dk DX5_hasRoomFor_0 5 rfl) (by decide) (fun c1 => ?_) (fun c1 => ?_)
  · replace hF := if_t hF c1
    refine lv_iconst (v := 0) X.x X.b (dk DX5_hasRoomFor_0 8 rfl) (by decide) ?_
    cases sm hF
    exact mr_zret X hr hlk hH rfl ⟨rfl, rfl⟩ (dk DX5_hasRoomFor_0 9 rfl)
  · replace hF := if_f hF c1
    refine lv_iconst (v := 1) X.x X.b (dk DX5_hasRoomFor_0 6 rfl) (by decide) ?_
    refine lv_goto (tgt := 17) X.x X.b (dk DX5_hasRoomFor_0 7 rfl) (by decide) ?_
    cases sm hF
    exact mr_zret X hr hlk hH rfl ⟨rfl, rfl⟩ (dk DX5_hasRoomFor_0 9 rfl)
-- X5_put
abbrev rm_X5_put : Room := { frames := 0, cells := 0, slots := 0, locals := 0 }
theorem hd_X5_put : mHd yX5_put 1 := ⟨by decide +kernel, by decide +kernel, by decide +kernel⟩
theorem DX5_put_0 : ∀ t ∈ ([(0, .bipush 24, 2), (2, .istore_n 2, 1), (3, .iload_n 2, 1), (4, .ifCond .lt 49, 3), (7, .aload_n 0, 1), (8, .getfield 26, 3), (11, .ifCond .lt 36, 3), (14, .aload_n 0, 1), (15, .getfield 26, 3), (18, .sipush 700, 3), (21, .if_icmp .ge 26, 3), (24, .aload_n 0, 1), (25, .getfield 18, 3), (28, .aload_n 0, 1), (29, .getfield 26, 3), (32, .iload_n 1, 1), (33, .iload_n 2, 1), (34, .ishr, 1), (35, .i2b, 1), (36, .bastore, 1), (37, .aload_n 0, 1), (38, .dup, 1), (39, .getfield 26, 3), (42, .iconst 1, 1), (43, .iadd, 1), (44, .putfield 26, 3), (47, .iinc 2 (-8), 3), (50, .goto (-47), 3), (53, .return_, 1)] : List (Nat × Instr × Nat)), decode cX5_put t.1 = .ok (t.2.1, t.2.2) := by decide +kernel
noncomputable def f_X5_put_3 (s_mk : OS) (b1 : Int32) : (OS × Int32) → Option ((OS × Int32) ⊕ (OS)) := fun z => match z with | (s_t, b2) => (if b2 < 0 then some (.inr s_t) else (if (s_t.1 2) < 0 then bnd (b2 + (-8) : Int32) (fun v3 => some (.inl ((s_t, v3)))) else (if 700 ≤ (s_t.1 2) then bnd (b2 + (-8) : Int32) (fun v6 => some (.inl ((s_t, v6)))) else if inb (s_t.1 2) 700 = true then bnd (oA s_t 1 (upd (s_t.2.2.1 1) (s_t.1 2 : Int32).toNatClampNeg (vp_nar .byte ((b1 >>> (b2 &&& 31) : Int32).toInt8.toInt32)))) (fun t9 => bnd (oI t9 2 ((t9.1 2) + 1)) (fun t11 => bnd (b2 + (-8) : Int32) (fun v13 => some (.inl ((t11, v13)))))) else none)))
noncomputable def f_X5_put (st : OS) (st_mk : OS) (a0 : Int32) : Option (OS) := (lpv (f_X5_put_3 st_mk a0) ((st, 24))).bind (fun x15 => some x15)
set_option maxHeartbeats 4000000 in
set_option maxRecDepth 100000 in
theorem w_X5_put_3 {p : Program} {l : Launch} {e : Env} {s : State} {m : MethodId} {args : Array Value} {below : List Frame} {meth : Method} {c : Code} {Q : State → Prop} {G : mG} {h : mM} {q : Nat → Nat} {q_mk : Nat → Nat} (hq : oinj LX5 q) (hq_mk : oinj LX3 q_mk) (ha : oap [(LX5, q), (LX3, q_mk)]) (lk_mk : q 0 = q_mk 3) (X : mX G p m c cX5_put 3 s args RX5) (s_mk : OS) (b1 : Int32) : ∀ (z : OS × Int32) (r : OS), lpv (f_X5_put_3 s_mk b1) z = some r → ∀ (H : Heap) (locs : List Loc) (ls : Array Slot), mH G (oset LX5 G q z.1 (oset LX3 G q_mk s_mk h)) s.heap H locs → lv_has ls 3 [(0, .ref (q 10)), (1, .int b1), (2, .int z.2)] → (∀ (H : Heap) (locs : List Loc) (ls : Array Slot), mH G (oset LX5 G q r (oset LX3 G q_mk s_mk h)) s.heap H locs → lv_has ls 3 [] → W p l e rm_X5_put s m args below meth c H locs 0 0 Q (F0 m 53 ls [])) → W p l e rm_X5_put s m args below meth c H locs 0 0 Q (F0 m 3 ls []) := by
  refine lpv_rec ?_
  intro z r x hF hx H locs ls hH hl K0
  obtain ⟨s_t, b2⟩ := z
  dsimp only [f_X5_put_3] at hF
  try dsimp only at hH hl
  refine lv_iload_n X.x X.b (dk DX5_put_0 2 rfl) rfl (lv_at hl 2 rfl) ?_
  refine lv_if_lt (tgt := 53) X.x X.b (dk DX5_put_0 3 rfl) (by decide) (fun c1 => ?_) (fun c1 => ?_)
  · replace hF := if_t hF c1
    have hr9 := lp_r hF hx
    subst hr9
    exact K0 _ _ _ hH (lv_sub hl [] rfl)
  · replace hF := if_f hF c1
    refine lv_aload_n X.x X.b (dk DX5_put_0 4 rfl) rfl (lv_at hl 0 rfl) ?_
    refine og_getI OX5 X hq hH 2 (by decide) rfl kF_X5_26 (dk DX5_put_0 5 rfl) ?_
    refine lv_if_lt (tgt := 47) X.x X.b (dk DX5_put_0 6 rfl) (by decide) (fun c2 => ?_) (fun c2 => ?_)
    · replace hF := if_t hF c2
      obtain ⟨v3, e4⟩ : ∃ y : Int32, y = b2 + (-8) := ⟨_, rfl⟩
      replace hF := bnd_e hF e4
      refine lv_iinc (v := v3) (lv' := [(2, .int v3), (0, .ref (q 10)), (1, .int b1)]) X.x X.b (dk DX5_put_0 26 rfl) hl (k := 2) rfl (by rw [e4]; rfl) (by decide) rfl (fun ls hl => ?_)
      replace hl : lv_has ls 3 [(0, .ref (q 10)), (1, .int b1), (2, .int v3)] := lv_sub hl [1, 2, 0] rfl
      refine lv_goto (tgt := 3) X.x X.b (dk DX5_put_0 27 rfl) (by decide) ?_
      exact (lp_l hF hx) _ _ _ hH (lv_sub hl [0, 1, 2] rfl) K0
    · replace hF := if_f hF c2
      refine lv_aload_n X.x X.b (dk DX5_put_0 7 rfl) rfl (lv_at hl 0 rfl) ?_
      refine og_getI OX5 X hq hH 2 (by decide) rfl kF_X5_26 (dk DX5_put_0 8 rfl) ?_
      refine lv_sipush (v := 700) X.x X.b (dk DX5_put_0 9 rfl) (by decide) ?_
      refine lv_icmp_ge (tgt := 47) X.x X.b (dk DX5_put_0 10 rfl) (by decide) (fun c5 => ?_) (fun c5 => ?_)
      · replace hF := if_t hF c5
        obtain ⟨v6, e7⟩ : ∃ y : Int32, y = b2 + (-8) := ⟨_, rfl⟩
        replace hF := bnd_e hF e7
        refine lv_iinc (v := v6) (lv' := [(2, .int v6), (0, .ref (q 10)), (1, .int b1)]) X.x X.b (dk DX5_put_0 26 rfl) hl (k := 2) rfl (by rw [e7]; rfl) (by decide) rfl (fun ls hl => ?_)
        replace hl : lv_has ls 3 [(0, .ref (q 10)), (1, .int b1), (2, .int v6)] := lv_sub hl [1, 2, 0] rfl
        refine lv_goto (tgt := 3) X.x X.b (dk DX5_put_0 27 rfl) (by decide) ?_
        exact (lp_l hF hx) _ _ _ hH (lv_sub hl [0, 1, 2] rfl) K0
      · replace hF := if_f hF c5
        refine lv_aload_n X.x X.b (dk DX5_put_0 11 rfl) rfl (lv_at hl 0 rfl) ?_
        refine og_getR (t := 2) OX5 X hq hH 1 (by decide) rfl kF_X5_18 (dk DX5_put_0 12 rfl) ?_
        refine lv_aload_n X.x X.b (dk DX5_put_0 13 rfl) rfl (lv_at hl 0 rfl) ?_
        refine og_getI OX5 X hq hH 2 (by decide) rfl kF_X5_26 (dk DX5_put_0 14 rfl) ?_
        refine lv_iload_n X.x X.b (dk DX5_put_0 15 rfl) rfl (lv_at hl 1 rfl) ?_
        refine lv_iload_n X.x X.b (dk DX5_put_0 16 rfl) rfl (lv_at hl 2 rfl) ?_
        refine lv_ishr X.x X.b (dk DX5_put_0 17 rfl) ?_
        refine lv_i2b X.x X.b (dk DX5_put_0 18 rfl) rfl ?_
        obtain ⟨c8, hF⟩ := gd hF
        refine og_bast X hq hH 1 (by decide) rfl (inb_in c8) (dk DX5_put_0 19 rfl) (fun H locs hH => ?_)
        obtain ⟨t9, e10⟩ : ∃ y, y = oA s_t 1 (upd (s_t.2.2.1 1) (s_t.1 2 : Int32).toNatClampNeg (vp_nar .byte ((b1 >>> (b2 &&& 31) : Int32).toInt8.toInt32))) := ⟨_, rfl⟩
        rw [← e10] at hH
        replace hF := bnd_e hF e10
        refine lv_aload_n X.x X.b (dk DX5_put_0 20 rfl) rfl (lv_at hl 0 rfl) ?_
        refine lv_dup X.x X.b (dk DX5_put_0 21 rfl) rfl ?_
        refine og_getI OX5 X hq hH 2 (by decide) rfl kF_X5_26 (dk DX5_put_0 22 rfl) ?_
        refine lv_iconst (v := 1) X.x X.b (dk DX5_put_0 23 rfl) (by decide) ?_
        refine lv_iadd X.x X.b (dk DX5_put_0 24 rfl) ?_
        refine og_putI OX5 X hq hH 2 (by decide) rfl kF_X5_26 rfl rfl rfl (dk DX5_put_0 25 rfl) (fun H locs hH => ?_)
        obtain ⟨t11, e12⟩ : ∃ y, y = oI t9 2 ((t9.1 2) + 1) := ⟨_, rfl⟩
        rw [← e12] at hH
        replace hF := bnd_e hF e12
        obtain ⟨v13, e14⟩ : ∃ y : Int32, y = b2 + (-8) := ⟨_, rfl⟩
        replace hF := bnd_e hF e14
        refine lv_iinc (v := v13) (lv' := [(2, .int v13), (0, .ref (q 10)), (1, .int b1)]) X.x X.b (dk DX5_put_0 26 rfl) hl (k := 2) rfl (by rw [e14]; rfl) (by decide) rfl (fun ls hl => ?_)
        replace hl : lv_has ls 3 [(0, .ref (q 10)), (1, .int b1), (2, .int v13)] := lv_sub hl [1, 2, 0] rfl
        refine lv_goto (tgt := 3) X.x X.b (dk DX5_put_0 27 rfl) (by decide) ?_
        exact (lp_l hF hx) _ _ _ hH (lv_sub hl [0, 1, 2] rfl) K0
set_option maxHeartbeats 4000000 in
set_option maxRecDepth 100000 in
theorem c_X5_put {l : Launch} {G : mG} {h : mM} {q : Nat → Nat} {q_mk : Nat → Nat} (hq : oinj LX5 q) (hq_mk : oinj LX3 q_mk) (ha : oap [(LX5, q), (LX3, q_mk)]) (lk_mk : q 0 = q_mk 3) {st : OS} {st_mk : OS} {a0 : Int32} {x : OS} (hF : f_X5_put st st_mk a0 = some x) : cQ l G yX5_put cX5_put 3 none rm_X5_put [.ref (q 10), .int a0] (oset LX5 G q st (oset LX3 G q_mk st_mk h)) (mQv G (fun h1 => h1 = oset LX5 G q x (oset LX3 G q_mk st_mk h))) := by
  refine mp_of (by decide +kernel) (Nat.le_of_ble_eq_true rfl) ?_
  intro p e s m below meth c X hr hlk hH hname ls hl
  dsimp only [f_X5_put] at hF
  replace hl : lv_has ls 3 [(0, .ref (q 10)), (1, .int a0)] := hl
  refine lv_bipush (v := 24) X.x X.b (dk DX5_put_0 0 rfl) (by decide) ?_
  refine lv_istore_n (lv' := [(2, .int 24), (0, .ref (q 10)), (1, .int a0)]) X.x X.b (dk DX5_put_0 1 rfl) rfl hl (by decide) rfl (fun ls hl => ?_)
  replace hl : lv_has ls 3 [(0, .ref (q 10)), (1, .int a0), (2, .int 24)] := lv_sub hl [1, 2, 0] rfl
  obtain ⟨x15, e16, hF⟩ := bd hF
  replace hl : lv_has ls 3 [(0, .ref (q 10)), (1, .int a0), (2, .int 24)] := lv_sub hl [0, 1, 2] rfl
  refine w_X5_put_3 hq hq_mk ha lk_mk X st_mk a0 _ _ e16 _ _ _ hH hl (fun H locs ls hH hl => ?_)
  cases sm hF
  exact mr_vret X hr hlk hH rfl (dk DX5_put_0 28 rfl)
-- X5_byteAt
abbrev rm_X5_byteAt : Room := { frames := 0, cells := 0, slots := 0, locals := 0 }
theorem hd_X5_byteAt : mHd yX5_byteAt 1 := ⟨by decide +kernel, by decide +kernel, by decide +kernel⟩
theorem DX5_byteAt_0 : ∀ t ∈ ([(0, .iload_n 1, 1), (1, .ifCond .lt 23, 3), (4, .iload_n 1, 1), (5, .sipush 700, 3), (8, .if_icmp .ge 16, 3), (11, .aload_n 0, 1), (12, .getfield 18, 3), (15, .iload_n 1, 1), (16, .baload, 1), (17, .sipush 255, 3), (20, .iand, 1), (21, .goto 4, 3), (24, .iconst 0, 1), (25, .ireturn, 1)] : List (Nat × Instr × Nat)), decode cX5_byteAt t.1 = .ok (t.2.1, t.2.2) := by decide +kernel
noncomputable def f_X5_byteAt (st : OS) (st_mk : OS) (a0 : Int32) : Option (Int32) := (if a0 < 0 then some 0 else (if 700 ≤ a0 then some 0 else if inb a0 700 = true then some ((st.2.2.1 1 (a0 : Int32).toNatClampNeg) &&& 255) else none))
set_option maxHeartbeats 4000000 in
set_option maxRecDepth 100000 in
theorem c_X5_byteAt {l : Launch} {G : mG} {h : mM} {q : Nat → Nat} {q_mk : Nat → Nat} (hq : oinj LX5 q) (hq_mk : oinj LX3 q_mk) (ha : oap [(LX5, q), (LX3, q_mk)]) (lk_mk : q 0 = q_mk 3) {st : OS} {st_mk : OS} {a0 : Int32} {x : Int32} (hF : f_X5_byteAt st st_mk a0 = some x) : cQ l G yX5_byteAt cX5_byteAt 2 (some FieldType.int) rm_X5_byteAt [.ref (q 10), .int a0] (oset LX5 G q st (oset LX3 G q_mk st_mk h)) (mQi G (fun r h1 => r = x ∧ h1 = oset LX5 G q st (oset LX3 G q_mk st_mk h))) := by
  refine mp_of (by decide +kernel) (Nat.le_of_ble_eq_true rfl) ?_
  intro p e s m below meth c X hr hlk hH hname ls hl
  dsimp only [f_X5_byteAt] at hF
  replace hl : lv_has ls 2 [(0, .ref (q 10)), (1, .int a0)] := hl
  refine lv_iload_n X.x X.b (dk DX5_byteAt_0 0 rfl) rfl (lv_at hl 1 rfl) ?_
  refine lv_if_lt (tgt := 24) X.x X.b (dk DX5_byteAt_0 1 rfl) (by decide) (fun c1 => ?_) (fun c1 => ?_)
  · replace hF := if_t hF c1
    refine lv_iconst (v := 0) X.x X.b (dk DX5_byteAt_0 12 rfl) (by decide) ?_
    cases sm hF
    exact mr_iret X hr hlk hH ⟨rfl, rfl⟩ (dk DX5_byteAt_0 13 rfl)
  · replace hF := if_f hF c1
    refine lv_iload_n X.x X.b (dk DX5_byteAt_0 2 rfl) rfl (lv_at hl 1 rfl) ?_
    refine lv_sipush (v := 700) X.x X.b (dk DX5_byteAt_0 3 rfl) (by decide) ?_
    refine lv_icmp_ge (tgt := 24) X.x X.b (dk DX5_byteAt_0 4 rfl) (by decide) (fun c2 => ?_) (fun c2 => ?_)
    · replace hF := if_t hF c2
      refine lv_iconst (v := 0) X.x X.b (dk DX5_byteAt_0 12 rfl) (by decide) ?_
      cases sm hF
      exact mr_iret X hr hlk hH ⟨rfl, rfl⟩ (dk DX5_byteAt_0 13 rfl)
    · replace hF := if_f hF c2
      refine lv_aload_n X.x X.b (dk DX5_byteAt_0 5 rfl) rfl (lv_at hl 0 rfl) ?_
      refine og_getR (t := 2) OX5 X hq hH 1 (by decide) rfl kF_X5_18 (dk DX5_byteAt_0 6 rfl) ?_
      refine lv_iload_n X.x X.b (dk DX5_byteAt_0 7 rfl) rfl (lv_at hl 1 rfl) ?_
      obtain ⟨c3, hF⟩ := gd hF
      refine og_bald X hq hH 1 (by decide) rfl (inb_in c3) (dk DX5_byteAt_0 8 rfl) ?_
      refine lv_sipush (v := 255) X.x X.b (dk DX5_byteAt_0 9 rfl) (by decide) ?_
      refine lv_iand X.x X.b (dk DX5_byteAt_0 10 rfl) ?_
      refine lv_goto (tgt := 25) X.x X.b (dk DX5_byteAt_0 11 rfl) (by decide) ?_
      cases sm hF
      exact mr_iret X hr hlk hH ⟨rfl, rfl⟩ (dk DX5_byteAt_0 13 rfl)
-- X5_isBlank
abbrev rm_X5_isBlank : Room := { frames := 0, cells := 0, slots := 0, locals := 0 }
theorem hd_X5_isBlank : mHd yX5_isBlank 1 := ⟨by decide +kernel, by decide +kernel, by decide +kernel⟩
theorem DX5_isBlank_0 : ∀ t ∈ ([(0, .iload_n 0, 1), (1, .bipush 10, 2), (3, .if_icmp .eq 9, 3), (6, .iload_n 0, 1), (7, .bipush 32, 2), (9, .if_icmp .ne 7, 3), (12, .iconst 1, 1), (13, .goto 4, 3), (16, .iconst 0, 1), (17, .ireturn, 1)] : List (Nat × Instr × Nat)), decode cX5_isBlank t.1 = .ok (t.2.1, t.2.2) := by decide +kernel
noncomputable def f_X5_isBlank (a0 : Int32) : Option (Int32) := (if a0 = 10 then some 1 else (if a0 = 32 then some 1 else some 0))
set_option maxHeartbeats 4000000 in
set_option maxRecDepth 100000 in
theorem c_X5_isBlank {l : Launch} {G : mG} {h : mM}  {a0 : Int32} {x : Int32} (hF : f_X5_isBlank a0 = some x) : cQ l G yX5_isBlank cX5_isBlank 1 (some FieldType.boolean) rm_X5_isBlank [.int a0] (h) (mQi G (fun r h1 => r = x ∧ h1 = h)) := by
  refine mp_of (by decide +kernel) (Nat.le_of_ble_eq_true rfl) ?_
  intro p e s m below meth c X hr hlk hH hname ls hl
  dsimp only [f_X5_isBlank] at hF
  replace hl : lv_has ls 1 [(0, .int a0)] := hl
  refine lv_iload_n X.x X.b (dk DX5_isBlank_0 0 rfl) rfl (lv_at hl 0 rfl) ?_
  refine lv_bipush (v := 10) X.x X.b (dk DX5_isBlank_0 1 rfl) (by decide) ?_
  refine lv_icmp_eq (tgt := 12) X.x X.b (dk DX5_isBlank_0 2 rfl) (by decide) (fun c1 => ?_) (fun c1 => ?_)
  · replace hF := if_t hF c1
    refine lv_iconst (v := 1) X.x X.b (dk DX5_isBlank_0 6 rfl) (by decide) ?_
    refine lv_goto (tgt := 17) X.x X.b (dk DX5_isBlank_0 7 rfl) (by decide) ?_
    cases sm hF
    exact mr_zret X hr hlk hH rfl ⟨rfl, rfl⟩ (dk DX5_isBlank_0 9 rfl)
  · replace hF := if_f hF c1
    refine lv_iload_n X.x X.b (dk DX5_isBlank_0 3 rfl) rfl (lv_at hl 0 rfl) ?_
    refine lv_bipush (v := 32) X.x X.b (dk DX5_isBlank_0 4 rfl) (by decide) ?_
    refine lv_icmp_ne (tgt := 16) X.x X.b (dk DX5_isBlank_0 5 rfl) (by decide) (fun c2 => ?_) (fun c2 => ?_)
    · replace hF := if_f hF c2
      refine lv_iconst (v := 0) X.x X.b (dk DX5_isBlank_0 8 rfl) (by decide) ?_
      cases sm hF
      exact mr_zret X hr hlk hH rfl ⟨rfl, rfl⟩ (dk DX5_isBlank_0 9 rfl)
    · replace hF := if_t hF c2
      refine lv_iconst (v := 1) X.x X.b (dk DX5_isBlank_0 6 rfl) (by decide) ?_
      refine lv_goto (tgt := 17) X.x X.b (dk DX5_isBlank_0 7 rfl) (by decide) ?_
      cases sm hF
      exact mr_zret X hr hlk hH rfl ⟨rfl, rfl⟩ (dk DX5_isBlank_0 9 rfl)
-- X5_isDigit
abbrev rm_X5_isDigit : Room := { frames := 0, cells := 0, slots := 0, locals := 0 }
theorem hd_X5_isDigit : mHd yX5_isDigit 1 := ⟨by decide +kernel, by decide +kernel, by decide +kernel⟩
theorem DX5_isDigit_0 : ∀ t ∈ ([(0, .iload_n 0, 1), (1, .bipush 48, 2), (3, .if_icmp .lt 13, 3), (6, .iload_n 0, 1), (7, .bipush 57, 2), (9, .if_icmp .gt 7, 3), (12, .iconst 1, 1), (13, .goto 4, 3), (16, .iconst 0, 1), (17, .ireturn, 1)] : List (Nat × Instr × Nat)), decode cX5_isDigit t.1 = .ok (t.2.1, t.2.2) := by decide +kernel
noncomputable def f_X5_isDigit (a0 : Int32) : Option (Int32) := (if a0 < 48 then some 0 else (if 57 < a0 then some 0 else some 1))
set_option maxHeartbeats 4000000 in
set_option maxRecDepth 100000 in
theorem c_X5_isDigit {l : Launch} {G : mG} {h : mM}  {a0 : Int32} {x : Int32} (hF : f_X5_isDigit a0 = some x) : cQ l G yX5_isDigit cX5_isDigit 1 (some FieldType.boolean) rm_X5_isDigit [.int a0] (h) (mQi G (fun r h1 => r = x ∧ h1 = h)) := by
  refine mp_of (by decide +kernel) (Nat.le_of_ble_eq_true rfl) ?_
  intro p e s m below meth c X hr hlk hH hname ls hl
  dsimp only [f_X5_isDigit] at hF
  replace hl : lv_has ls 1 [(0, .int a0)] := hl
  refine lv_iload_n X.x X.b (dk DX5_isDigit_0 0 rfl) rfl (lv_at hl 0 rfl) ?_
  refine lv_bipush (v := 48) X.x X.b (dk DX5_isDigit_0 1 rfl) (by decide) ?_
  refine lv_icmp_lt (tgt := 16) X.x X.b (dk DX5_isDigit_0 2 rfl) (by decide) (fun c1 => ?_) (fun c1 => ?_)
  · replace hF := if_t hF c1
    refine lv_iconst (v := 0) X.x X.b (dk DX5_isDigit_0 8 rfl) (by decide) ?_
    cases sm hF
    exact mr_zret X hr hlk hH rfl ⟨rfl, rfl⟩ (dk DX5_isDigit_0 9 rfl)
  · replace hF := if_f hF c1
    refine lv_iload_n X.x X.b (dk DX5_isDigit_0 3 rfl) rfl (lv_at hl 0 rfl) ?_
    refine lv_bipush (v := 57) X.x X.b (dk DX5_isDigit_0 4 rfl) (by decide) ?_
    refine lv_icmp_gt (tgt := 16) X.x X.b (dk DX5_isDigit_0 5 rfl) (by decide) (fun c2 => ?_) (fun c2 => ?_)
    · replace hF := if_t hF c2
      refine lv_iconst (v := 0) X.x X.b (dk DX5_isDigit_0 8 rfl) (by decide) ?_
      cases sm hF
      exact mr_zret X hr hlk hH rfl ⟨rfl, rfl⟩ (dk DX5_isDigit_0 9 rfl)
    · replace hF := if_f hF c2
      refine lv_iconst (v := 1) X.x X.b (dk DX5_isDigit_0 6 rfl) (by decide) ?_
      refine lv_goto (tgt := 17) X.x X.b (dk DX5_isDigit_0 7 rfl) (by decide) ?_
      cases sm hF
      exact mr_zret X hr hlk hH rfl ⟨rfl, rfl⟩ (dk DX5_isDigit_0 9 rfl)
-- X5_stepNumber
abbrev rm_X5_stepNumber : Room := { frames := 1, cells := 0, slots := 0, locals := 21 }
theorem hd_X5_stepNumber : mHd yX5_stepNumber 0 := ⟨by decide +kernel, by decide +kernel, by decide +kernel⟩
theorem DX5_stepNumber_0 : ∀ t ∈ ([(0, .aload_n 0, 1), (1, .aload_n 0, 1), (2, .aload_n 0, 1), (3, .getfield 112, 3), (6, .invokevirtual 115, 3), (9, .bipush 48, 2), (11, .isub, 1), (12, .putfield 88, 3), (15, .aload_n 0, 1), (16, .getfield 38, 3), (19, .aload_n 0, 1), (20, .getfield 35, 3), (23, .if_icmp .ge 73, 3), (26, .aload_n 0, 1), (27, .aload_n 0, 1), (28, .getfield 38, 3), (31, .invokevirtual 115, 3), (34, .invokestatic 122, 3), (37, .ifCond .eq 59, 3), (40, .aload_n 0, 1), (41, .aload_n 0, 1), (42, .getfield 38, 3), (45, .aload_n 0, 1), (46, .getfield 112, 3), (49, .isub, 1), (50, .iconst 3, 1), (51, .if_icmp .ge 25, 3), (54, .aload_n 0, 1), (55, .getfield 88, 3), (58, .bipush 10, 2), (60, .imul, 1), (61, .aload_n 0, 1), (62, .aload_n 0, 1), (63, .getfield 38, 3), (66, .invokevirtual 115, 3), (69, .iadd, 1), (70, .bipush 48, 2), (72, .isub, 1), (73, .goto 7, 3), (76, .aload_n 0, 1), (77, .getfield 88, 3), (80, .putfield 88, 3), (83, .aload_n 0, 1), (84, .dup, 1), (85, .getfield 38, 3), (88, .iconst 1, 1), (89, .iadd, 1), (90, .putfield 38, 3), (93, .goto (-78), 3), (96, .aload_n 0, 1), (97, .aload_n 0, 1), (98, .getfield 38, 3), (101, .aload_n 0, 1), (102, .getfield 112, 3), (105, .isub, 1), (106, .iconst 3, 1), (107, .if_icmp .gt 7, 3), (110, .iconst 2, 1), (111, .goto 4, 3), (114, .iconst 3, 1)] : List (Nat × Instr × Nat)), decode cX5_stepNumber t.1 = .ok (t.2.1, t.2.2) := by decide +kernel
theorem DX5_stepNumber_1 : ∀ t ∈ ([(115, .putfield 53, 3), (118, .return_, 1)] : List (Nat × Instr × Nat)), decode cX5_stepNumber t.1 = .ok (t.2.1, t.2.2) := by decide +kernel
noncomputable def f_X5_stepNumber_15 (s_mk : OS) : OS → Option ((OS) ⊕ (OS)) := fun s_t => (if (s_t.1 3) ≤ (s_t.1 7) then some (.inr s_t) else (f_X5_byteAt s_t s_mk (s_t.1 7)).bind (fun x7 => (f_X5_isDigit x7).bind (fun x10 => (if x10 = 0 then some (.inr s_t) else (if 3 ≤ (s_t.1 7) - (s_t.1 6) then bnd (oI s_t 5 (s_t.1 5)) (fun t15 => bnd (oI t15 7 ((t15.1 7) + 1)) (fun t17 => some (.inl t17))) else (f_X5_byteAt s_t s_mk (s_t.1 7)).bind (fun x19 => bnd (oI s_t 5 ((((s_t.1 5) * 10) + x19) - 48)) (fun t22 => bnd (oI t22 7 ((t22.1 7) + 1)) (fun t24 => some (.inl t24)))))))))
noncomputable def f_X5_stepNumber (st : OS) (st_mk : OS) : Option (OS) := (f_X5_byteAt st st_mk (st.1 6)).bind (fun x1 => bnd (oI st 5 (x1 - 48)) (fun t4 => (lpv (f_X5_stepNumber_15 st_mk) t4).bind (fun x26 => (if 3 < (x26.1 7) - (x26.1 6) then bnd (oI x26 4 3) (fun t30 => some t30) else bnd (oI x26 4 2) (fun t32 => some t32)))))
set_option maxHeartbeats 4000000 in
set_option maxRecDepth 100000 in
theorem w_X5_stepNumber_15 {p : Program} {l : Launch} {e : Env} {s : State} {m : MethodId} {args : Array Value} {below : List Frame} {meth : Method} {c : Code} {Q : State → Prop} {G : mG} {h : mM} {q : Nat → Nat} {q_mk : Nat → Nat} (hq : oinj LX5 q) (hq_mk : oinj LX3 q_mk) (ha : oap [(LX5, q), (LX3, q_mk)]) (lk_mk : q 0 = q_mk 3) (X : mX G p m c cX5_stepNumber 1 s args RX5) (s_mk : OS) : ∀ (z : OS) (r : OS), lpv (f_X5_stepNumber_15 s_mk) z = some r → ∀ (H : Heap) (locs : List Loc) (ls : Array Slot), mH G (oset LX5 G q z (oset LX3 G q_mk s_mk h)) s.heap H locs → lv_has ls 1 [(0, .ref (q 10))] → (∀ (H : Heap) (locs : List Loc) (ls : Array Slot), mH G (oset LX5 G q r (oset LX3 G q_mk s_mk h)) s.heap H locs → lv_has ls 1 [(0, .ref (q 10))] → W p l e rm_X5_stepNumber s m args below meth c H locs 0 0 Q (F0 m 96 ls [])) → W p l e rm_X5_stepNumber s m args below meth c H locs 0 0 Q (F0 m 15 ls []) := by
  refine lpv_rec ?_
  intro z r x hF hx H locs ls hH hl K0
  obtain ⟨s_t, hz⟩ : ∃ y, y = z := ⟨_, rfl⟩
  subst hz
  dsimp only [f_X5_stepNumber_15] at hF
  refine lv_aload_n X.x X.b (dk DX5_stepNumber_0 8 rfl) rfl (lv_at hl 0 rfl) ?_
  refine og_getI OX5 X hq hH 7 (by decide) rfl kF_X5_38 (dk DX5_stepNumber_0 9 rfl) ?_
  refine lv_aload_n X.x X.b (dk DX5_stepNumber_0 10 rfl) rfl (lv_at hl 0 rfl) ?_
  refine og_getI OX5 X hq hH 3 (by decide) rfl kF_X5_35 (dk DX5_stepNumber_0 11 rfl) ?_
  refine lv_icmp_ge (tgt := 96) X.x X.b (dk DX5_stepNumber_0 12 rfl) (by decide) (fun c6 => ?_) (fun c6 => ?_)
  · replace hF := if_t hF c6
    have hr9 := lp_r hF hx
    subst hr9
    exact K0 _ _ _ hH (lv_sub hl [0] rfl)
  · replace hF := if_f hF c6
    refine lv_aload_n X.x X.b (dk DX5_stepNumber_0 13 rfl) rfl (lv_at hl 0 rfl) ?_
    refine lv_aload_n X.x X.b (dk DX5_stepNumber_0 14 rfl) rfl (lv_at hl 0 rfl) ?_
    refine og_getI OX5 X hq hH 7 (by decide) rfl kF_X5_38 (dk DX5_stepNumber_0 15 rfl) ?_
    obtain ⟨x7, e8, hF⟩ := bd hF
    refine mr_ci0 hH ⟨rfl, rfl⟩ (mr_runV (As := [.int (s_t.1 7)]) (rest := []) X hH (c_X5_byteAt hq hq_mk ha lk_mk e8) ((oset_at hq (Nat.le_refl _) ohas_N).trans (congrArg some ocell_N)) OX5.1 kM_X5_115 kI_X5_byteAt kS_X5_byteAt kN_X5 kC_X5_byteAt hd_X5_byteAt ⟨Nat.le_of_ble_eq_true rfl, Nat.le_of_ble_eq_true rfl⟩ rfl hl.1 (Nat.le_of_ble_eq_true rfl) (dk DX5_stepNumber_0 16 rfl) ⟨Nat.zero_le _, Nat.zero_le _⟩) (fun r h1 H locs hp hH => ?_)
    obtain ⟨hr1, hr2⟩ := hp; rw [hr1]; rw [hr2] at hH; clear hr1 hr2
    obtain ⟨x10, e11, hF⟩ := bd hF
    refine mr_ci0 hH ⟨rfl, rfl⟩ (mr_runS (As := [.int x7]) (rest := []) X hH (c_X5_isDigit e11) kM_X5_122 kT_X5_isDigit kN_X5 kC_X5_isDigit hd_X5_isDigit ⟨Nat.le_of_ble_eq_true rfl, Nat.le_of_ble_eq_true rfl⟩ rfl hl.1 (Nat.le_of_ble_eq_true rfl) (dk DX5_stepNumber_0 17 rfl) ⟨Nat.zero_le _, Nat.zero_le _⟩) (fun r h1 H locs hp hH => ?_)
    obtain ⟨hr1, hr2⟩ := hp; rw [hr1]; rw [hr2] at hH; clear hr1 hr2
    refine lv_if_eq (tgt := 96) X.x X.b (dk DX5_stepNumber_0 18 rfl) (by decide) (fun c13 => ?_) (fun c13 => ?_)
    · replace hF := if_t hF c13
      have hr9 := lp_r hF hx
      subst hr9
      exact K0 _ _ _ hH (lv_sub hl [0] rfl)
    · replace hF := if_f hF c13
      refine lv_aload_n X.x X.b (dk DX5_stepNumber_0 19 rfl) rfl (lv_at hl 0 rfl) ?_
      refine lv_aload_n X.x X.b (dk DX5_stepNumber_0 20 rfl) rfl (lv_at hl 0 rfl) ?_
      refine og_getI OX5 X hq hH 7 (by decide) rfl kF_X5_38 (dk DX5_stepNumber_0 21 rfl) ?_
      refine lv_aload_n X.x X.b (dk DX5_stepNumber_0 22 rfl) rfl (lv_at hl 0 rfl) ?_
      refine og_getI OX5 X hq hH 6 (by decide) rfl kF_X5_112 (dk DX5_stepNumber_0 23 rfl) ?_
      refine lv_isub X.x X.b (dk DX5_stepNumber_0 24 rfl) ?_
      refine lv_iconst (v := 3) X.x X.b (dk DX5_stepNumber_0 25 rfl) (by decide) ?_
      refine lv_icmp_ge (tgt := 76) X.x X.b (dk DX5_stepNumber_0 26 rfl) (by decide) (fun c14 => ?_) (fun c14 => ?_)
      · replace hF := if_t hF c14
        refine lv_aload_n X.x X.b (dk DX5_stepNumber_0 39 rfl) rfl (lv_at hl 0 rfl) ?_
        refine og_getI OX5 X hq hH 5 (by decide) rfl kF_X5_88 (dk DX5_stepNumber_0 40 rfl) ?_
        refine og_putI OX5 X hq hH 5 (by decide) rfl kF_X5_88 rfl rfl rfl (dk DX5_stepNumber_0 41 rfl) (fun H locs hH => ?_)
        obtain ⟨t15, e16⟩ : ∃ y, y = oI s_t 5 (s_t.1 5) := ⟨_, rfl⟩
        rw [← e16] at hH
        replace hF := bnd_e hF e16
        refine lv_aload_n X.x X.b (dk DX5_stepNumber_0 42 rfl) rfl (lv_at hl 0 rfl) ?_
        refine lv_dup X.x X.b (dk DX5_stepNumber_0 43 rfl) rfl ?_
        refine og_getI OX5 X hq hH 7 (by decide) rfl kF_X5_38 (dk DX5_stepNumber_0 44 rfl) ?_
        refine lv_iconst (v := 1) X.x X.b (dk DX5_stepNumber_0 45 rfl) (by decide) ?_
        refine lv_iadd X.x X.b (dk DX5_stepNumber_0 46 rfl) ?_
        refine og_putI OX5 X hq hH 7 (by decide) rfl kF_X5_38 rfl rfl rfl (dk DX5_stepNumber_0 47 rfl) (fun H locs hH => ?_)
        obtain ⟨t17, e18⟩ : ∃ y, y = oI t15 7 ((t15.1 7) + 1) := ⟨_, rfl⟩
        rw [← e18] at hH
        replace hF := bnd_e hF e18
        refine lv_goto (tgt := 15) X.x X.b (dk DX5_stepNumber_0 48 rfl) (by decide) ?_
        exact (lp_l hF hx) _ _ _ hH (lv_sub hl [0] rfl) K0
      · replace hF := if_f hF c14
        refine lv_aload_n X.x X.b (dk DX5_stepNumber_0 27 rfl) rfl (lv_at hl 0 rfl) ?_
        refine og_getI OX5 X hq hH 5 (by decide) rfl kF_X5_88 (dk DX5_stepNumber_0 28 rfl) ?_
        refine lv_bipush (v := 10) X.x X.b (dk DX5_stepNumber_0 29 rfl) (by decide) ?_
        refine lv_imul X.x X.b (dk DX5_stepNumber_0 30 rfl) ?_
        refine lv_aload_n X.x X.b (dk DX5_stepNumber_0 31 rfl) rfl (lv_at hl 0 rfl) ?_
        refine lv_aload_n X.x X.b (dk DX5_stepNumber_0 32 rfl) rfl (lv_at hl 0 rfl) ?_
        refine og_getI OX5 X hq hH 7 (by decide) rfl kF_X5_38 (dk DX5_stepNumber_0 33 rfl) ?_
        obtain ⟨x19, e20, hF⟩ := bd hF
        refine mr_ci0 hH ⟨rfl, rfl⟩ (mr_runV (As := [.int (s_t.1 7)]) (rest := [.int ((s_t.1 5) * 10), .ref (q 10)]) X hH (c_X5_byteAt hq hq_mk ha lk_mk e20) ((oset_at hq (Nat.le_refl _) ohas_N).trans (congrArg some ocell_N)) OX5.1 kM_X5_115 kI_X5_byteAt kS_X5_byteAt kN_X5 kC_X5_byteAt hd_X5_byteAt ⟨Nat.le_of_ble_eq_true rfl, Nat.le_of_ble_eq_true rfl⟩ rfl hl.1 (Nat.le_of_ble_eq_true rfl) (dk DX5_stepNumber_0 34 rfl) ⟨Nat.zero_le _, Nat.zero_le _⟩) (fun r h1 H locs hp hH => ?_)
        obtain ⟨hr1, hr2⟩ := hp; rw [hr1]; rw [hr2] at hH; clear hr1 hr2
        refine lv_iadd X.x X.b (dk DX5_stepNumber_0 35 rfl) ?_
        refine lv_bipush (v := 48) X.x X.b (dk DX5_stepNumber_0 36 rfl) (by decide) ?_
        refine lv_isub X.x X.b (dk DX5_stepNumber_0 37 rfl) ?_
        refine lv_goto (tgt := 80) X.x X.b (dk DX5_stepNumber_0 38 rfl) (by decide) ?_
        refine og_putI OX5 X hq hH 5 (by decide) rfl kF_X5_88 rfl rfl rfl (dk DX5_stepNumber_0 41 rfl) (fun H locs hH => ?_)
        obtain ⟨t22, e23⟩ : ∃ y, y = oI s_t 5 ((((s_t.1 5) * 10) + x19) - 48) := ⟨_, rfl⟩
        rw [← e23] at hH
        replace hF := bnd_e hF e23
        refine lv_aload_n X.x X.b (dk DX5_stepNumber_0 42 rfl) rfl (lv_at hl 0 rfl) ?_
        refine lv_dup X.x X.b (dk DX5_stepNumber_0 43 rfl) rfl ?_
        refine og_getI OX5 X hq hH 7 (by decide) rfl kF_X5_38 (dk DX5_stepNumber_0 44 rfl) ?_
        refine lv_iconst (v := 1) X.x X.b (dk DX5_stepNumber_0 45 rfl) (by decide) ?_
        refine lv_iadd X.x X.b (dk DX5_stepNumber_0 46 rfl) ?_
        refine og_putI OX5 X hq hH 7 (by decide) rfl kF_X5_38 rfl rfl rfl (dk DX5_stepNumber_0 47 rfl) (fun H locs hH => ?_)
        obtain ⟨t24, e25⟩ : ∃ y, y = oI t22 7 ((t22.1 7) + 1) := ⟨_, rfl⟩
        rw [← e25] at hH
        replace hF := bnd_e hF e25
        refine lv_goto (tgt := 15) X.x X.b (dk DX5_stepNumber_0 48 rfl) (by decide) ?_
        exact (lp_l hF hx) _ _ _ hH (lv_sub hl [0] rfl) K0
set_option maxHeartbeats 4000000 in
set_option maxRecDepth 100000 in
theorem c_X5_stepNumber {l : Launch} {G : mG} {h : mM} {q : Nat → Nat} {q_mk : Nat → Nat} (hq : oinj LX5 q) (hq_mk : oinj LX3 q_mk) (ha : oap [(LX5, q), (LX3, q_mk)]) (lk_mk : q 0 = q_mk 3) {st : OS} {st_mk : OS} {x : OS} (hF : f_X5_stepNumber st st_mk = some x) : cQ l G yX5_stepNumber cX5_stepNumber 1 none rm_X5_stepNumber [.ref (q 10)] (oset LX5 G q st (oset LX3 G q_mk st_mk h)) (mQv G (fun h1 => h1 = oset LX5 G q x (oset LX3 G q_mk st_mk h))) := by
  refine mp_of (by decide +kernel) (Nat.le_of_ble_eq_true rfl) ?_
  intro p e s m below meth c X hr hlk hH hname ls hl
  dsimp only [f_X5_stepNumber] at hF
  replace hl : lv_has ls 1 [(0, .ref (q 10))] := hl
  refine lv_aload_n X.x X.b (dk DX5_stepNumber_0 0 rfl) rfl (lv_at hl 0 rfl) ?_
  refine lv_aload_n X.x X.b (dk DX5_stepNumber_0 1 rfl) rfl (lv_at hl 0 rfl) ?_
  refine lv_aload_n X.x X.b (dk DX5_stepNumber_0 2 rfl) rfl (lv_at hl 0 rfl) ?_
  refine og_getI OX5 X hq hH 6 (by decide) rfl kF_X5_112 (dk DX5_stepNumber_0 3 rfl) ?_
  obtain ⟨x1, e2, hF⟩ := bd hF
  refine mr_ci0 hH ⟨rfl, rfl⟩ (mr_runV (As := [.int (st.1 6)]) (rest := [.ref (q 10)]) X hH (c_X5_byteAt hq hq_mk ha lk_mk e2) ((oset_at hq (Nat.le_refl _) ohas_N).trans (congrArg some ocell_N)) OX5.1 kM_X5_115 kI_X5_byteAt kS_X5_byteAt kN_X5 kC_X5_byteAt hd_X5_byteAt ⟨Nat.le_of_ble_eq_true rfl, Nat.le_of_ble_eq_true rfl⟩ rfl hl.1 (Nat.le_of_ble_eq_true rfl) (dk DX5_stepNumber_0 4 rfl) ⟨Nat.zero_le _, Nat.zero_le _⟩) (fun r h1 H locs hp hH => ?_)
  obtain ⟨hr1, hr2⟩ := hp; rw [hr1]; rw [hr2] at hH; clear hr1 hr2
  refine lv_bipush (v := 48) X.x X.b (dk DX5_stepNumber_0 5 rfl) (by decide) ?_
  refine lv_isub X.x X.b (dk DX5_stepNumber_0 6 rfl) ?_
  refine og_putI OX5 X hq hH 5 (by decide) rfl kF_X5_88 rfl rfl rfl (dk DX5_stepNumber_0 7 rfl) (fun H locs hH => ?_)
  obtain ⟨t4, e5⟩ : ∃ y, y = oI st 5 (x1 - 48) := ⟨_, rfl⟩
  rw [← e5] at hH
  replace hF := bnd_e hF e5
  obtain ⟨x26, e27, hF⟩ := bd hF
  replace hl : lv_has ls 1 [(0, .ref (q 10))] := lv_sub hl [0] rfl
  refine w_X5_stepNumber_15 hq hq_mk ha lk_mk X st_mk _ _ e27 _ _ _ hH hl (fun H locs ls hH hl => ?_)
  refine lv_aload_n X.x X.b (dk DX5_stepNumber_0 49 rfl) rfl (lv_at hl 0 rfl) ?_
  refine lv_aload_n X.x X.b (dk DX5_stepNumber_0 50 rfl) rfl (lv_at hl 0 rfl) ?_
  refine og_getI OX5 X hq hH 7 (by decide) rfl kF_X5_38 (dk DX5_stepNumber_0 51 rfl) ?_
  refine lv_aload_n X.x X.b (dk DX5_stepNumber_0 52 rfl) rfl (lv_at hl 0 rfl) ?_
  refine og_getI OX5 X hq hH 6 (by decide) rfl kF_X5_112 (dk DX5_stepNumber_0 53 rfl) ?_
  refine lv_isub X.x X.b (dk DX5_stepNumber_0 54 rfl) ?_
  refine lv_iconst (v := 3) X.x X.b (dk DX5_stepNumber_0 55 rfl) (by decide) ?_
  refine lv_icmp_gt (tgt := 114) X.x X.b (dk DX5_stepNumber_0 56 rfl) (by decide) (fun c29 => ?_) (fun c29 => ?_)
  · replace hF := if_t hF c29
    refine lv_iconst (v := 3) X.x X.b (dk DX5_stepNumber_0 59 rfl) (by decide) ?_
    refine og_putI OX5 X hq hH 4 (by decide) rfl kF_X5_53 rfl rfl rfl (dk DX5_stepNumber_1 0 rfl) (fun H locs hH => ?_)
    obtain ⟨t30, e31⟩ : ∃ y, y = oI x26 4 3 := ⟨_, rfl⟩
    rw [← e31] at hH
    replace hF := bnd_e hF e31
    cases sm hF
    exact mr_vret X hr hlk hH rfl (dk DX5_stepNumber_1 1 rfl)
  · replace hF := if_f hF c29
    refine lv_iconst (v := 2) X.x X.b (dk DX5_stepNumber_0 57 rfl) (by decide) ?_
    refine lv_goto (tgt := 115) X.x X.b (dk DX5_stepNumber_0 58 rfl) (by decide) ?_
    refine og_putI OX5 X hq hH 4 (by decide) rfl kF_X5_53 rfl rfl rfl (dk DX5_stepNumber_1 0 rfl) (fun H locs hH => ?_)
    obtain ⟨t32, e33⟩ : ∃ y, y = oI x26 4 2 := ⟨_, rfl⟩
    rw [← e33] at hH
    replace hF := bnd_e hF e33
    cases sm hF
    exact mr_vret X hr hlk hH rfl (dk DX5_stepNumber_1 1 rfl)
