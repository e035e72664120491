-- X12_goes
abbrev rm_X12_goes : Room := { frames := 3, cells := 0, slots := 0, locals := 75 }
theorem hd_X12_goes : mHd yX12_goes 2 := ⟨by decide +kernel, by decide +kernel, by decide +kernel⟩
theorem DX12_goes_0 : ∀ t ∈ ([(0, .aload_n 0, 1), (1, .getfield 63, 3), (4, .iload_n 1, 1), (5, .iload_n 2, 1), (6, .iastore, 1), (7, .aload_n 0, 1), (8, .dup, 1), (9, .getfield 375, 3), (12, .iload_n 2, 1), (13, .invokestatic 111, 3), (16, .lor, 1), (17, .putfield 375, 3), (20, .aload_n 0, 1), (21, .iload_n 1, 1), (22, .invokevirtual 400, 3), (25, .ireturn, 1)] : List (Nat × Instr × Nat)), decode cX12_goes t.1 = .ok (t.2.1, t.2.2) := by decide +kernel
noncomputable def f_X12_goes (st : OS) (a0 : Int32) (a1 : Int32) : Option (Int32 × OS) := if inb a0 16 = true then bnd (oA st 36 (upd (st.2.2.1 36) (a0 : Int32).toNatClampNeg a1)) (fun t2 => (f_X12_bit a1).bind (fun x4 => bnd (oJ t2 37 ((t2.2.1 37) ||| x4)) (fun t6 => (f_X12_isWell t6 a0).bind (fun x8 => if isb x8 = true then some ((x8, t6)) else none)))) else none
set_option maxHeartbeats 4000000 in
set_option maxRecDepth 100000 in
theorem c_X12_goes {l : Launch} {G : mG} {h : mM} {q : Nat → Nat} (hq : oinj LX12 q) {st : OS} {a0 : Int32} {a1 : Int32} {x : Int32 × OS} (hF : f_X12_goes st a0 a1 = some x) : cQ l G yX12_goes cX12_goes 3 (some FieldType.boolean) rm_X12_goes [.ref (q 53), .int a0, .int a1] (oset LX12 G q st h) (mQi G (fun r h1 => r = x.1 ∧ h1 = oset LX12 G q x.2 h)) := by
  refine mp_of (by decide +kernel) (Nat.le_of_ble_eq_true rfl) ?_
  intro p e s m below meth c X hr hlk hH hname ls hl
  dsimp only [f_X12_goes] at hF
  replace hl : lv_has ls 3 [(0, .ref (q 53)), (1, .int a0), (2, .int a1)] := hl
  refine lv_aload_n X.x X.b (dk DX12_goes_0 0 rfl) rfl (lv_at hl 0 rfl) ?_
  refine og_getR (t := 0) OX12 X hq hH 36 (by decide) rfl kF_X12_63 (dk DX12_goes_0 1 rfl) ?_
  refine lv_iload_n X.x X.b (dk DX12_goes_0 2 rfl) rfl (lv_at hl 1 rfl) ?_
  refine lv_iload_n X.x X.b (dk DX12_goes_0 3 rfl) rfl (lv_at hl 2 rfl) ?_
  obtain ⟨c1, hF⟩ := gd hF
  refine og_iast X hq hH 36 (by decide) rfl (inb_in c1) (dk DX12_goes_0 4 rfl) (fun H locs hH => ?_)
  obtain ⟨t2, e3⟩ : ∃ y, y = oA st 36 (upd (st.2.2.1 36) (a0 : Int32).toNatClampNeg a1) := ⟨_, rfl⟩
  rw [← e3] at hH
  replace hF := bnd_e hF e3
  refine lv_aload_n X.x X.b (dk DX12_goes_0 5 rfl) rfl (lv_at hl 0 rfl) ?_
  refine lv_dup X.x X.b (dk DX12_goes_0 6 rfl) rfl ?_
  refine og_getJ OX12 X hq hH 37 (by decide) rfl kF_X12_375 (dk DX12_goes_0 7 rfl) ?_
  refine lv_iload_n X.x X.b (dk DX12_goes_0 8 rfl) rfl (lv_at hl 2 rfl) ?_
  obtain ⟨x4, e5, hF⟩ := bd hF
  refine mr_cl0 hH ⟨rfl, rfl⟩ (mr_runS (As := [.int a1]) (rest := [.long (t2.2.1 37), .ref (q 53)]) X hH (c_X12_bit e5) kM_X12_111 kT_X12_bit kN_X12 kC_X12_bit hd_X12_bit ⟨Nat.le_of_ble_eq_true rfl, Nat.le_of_ble_eq_true rfl⟩ rfl hl.1 (Nat.le_of_ble_eq_true rfl) (dk DX12_goes_0 9 rfl) ⟨Nat.zero_le _, Nat.zero_le _⟩) (fun r h1 H locs hp hH => ?_)
  obtain ⟨hr1, hr2⟩ := hp; rw [hr1]; rw [hr2] at hH; clear hr1 hr2
  refine lv_lor X.x X.b (dk DX12_goes_0 10 rfl) ?_
  refine og_putJ OX12 X hq hH 37 (by decide) rfl kF_X12_375 rfl rfl rfl (dk DX12_goes_0 11 rfl) (fun H locs hH => ?_)
  obtain ⟨t6, e7⟩ : ∃ y, y = oJ t2 37 ((t2.2.1 37) ||| x4) := ⟨_, rfl⟩
  rw [← e7] at hH
  replace hF := bnd_e hF e7
  refine lv_aload_n X.x X.b (dk DX12_goes_0 12 rfl) rfl (lv_at hl 0 rfl) ?_
  refine lv_iload_n X.x X.b (dk DX12_goes_0 13 rfl) rfl (lv_at hl 1 rfl) ?_
  obtain ⟨x8, e9, hF⟩ := bd hF
  refine mr_ci0 hH ⟨rfl, rfl⟩ (mr_runV (As := [.int a0]) (rest := []) X hH (c_X12_isWell hq e9) ((oset_at hq (Nat.le_refl _) ohas_N).trans (congrArg some ocell_N)) OX12.1 kM_X12_400 kI_X12_isWell kS_X12_isWell kN_X12 kC_X12_isWell hd_X12_isWell ⟨Nat.le_of_ble_eq_true rfl, Nat.le_of_ble_eq_true rfl⟩ rfl hl.1 (Nat.le_of_ble_eq_true rfl) (dk DX12_goes_0 14 rfl) ⟨Nat.zero_le _, Nat.zero_le _⟩) (fun r h1 H locs hp hH => ?_)
  obtain ⟨hr1, hr2⟩ := hp; rw [hr1]; rw [hr2] at hH; clear hr1 hr2
  obtain ⟨c10, hF⟩ := gd hF
  cases sm hF
  exact mr_zret X hr hlk hH (isb_nar c10) ⟨rfl, rfl⟩ (dk DX12_goes_0 15 rfl)
-- X12_backs
abbrev rm_X12_backs : Room := { frames := 1, cells := 0, slots := 0, locals := 20 }
theorem hd_X12_backs : mHd yX12_backs 1 := ⟨by decide +kernel, by decide +kernel, by decide +kernel⟩
theorem DX12_backs_0 : ∀ t ∈ ([(0, .aload_n 0, 1), (1, .dup, 1), (2, .getfield 375, 3), (5, .aload_n 0, 1), (6, .getfield 63, 3), (9, .iload_n 1, 1), (10, .iaload, 1), (11, .invokestatic 111, 3), (14, .ldc2_w 109, 3), (17, .lxor, 1), (18, .land, 1), (19, .putfield 375, 3), (22, .aload_n 0, 1), (23, .getfield 63, 3), (26, .iload_n 1, 1), (27, .iconst (-1), 1), (28, .iastore, 1), (29, .return_, 1)] : List (Nat × Instr × Nat)), decode cX12_backs t.1 = .ok (t.2.1, t.2.2) := by decide +kernel
noncomputable def f_X12_backs (st : OS) (a0 : Int32) : Option (OS) := if inb a0 16 = true then (f_X12_bit (st.2.2.1 36 (a0 : Int32).toNatClampNeg)).bind (fun x2 => bnd (oJ st 37 ((st.2.1 37) &&& (x2 ^^^ ((-1))))) (fun t4 => bnd (oA t4 36 (upd (t4.2.2.1 36) (a0 : Int32).toNatClampNeg ((-1)))) (fun t6 => some t6))) else none
set_option maxHeartbeats 4000000 in
set_option maxRecDepth 100000 in
theorem c_X12_backs {l : Launch} {G : mG} {h : mM} {q : Nat → Nat} (hq : oinj LX12 q) {st : OS} {a0 : Int32} {x : OS} (hF : f_X12_backs st a0 = some x) : cQ l G yX12_backs cX12_backs 2 none rm_X12_backs [.ref (q 53), .int a0] (oset LX12 G q st h) (mQv G (fun h1 => h1 = oset LX12 G q x h)) := by
  refine mp_of (by decide +kernel) (Nat.le_of_ble_eq_true rfl) ?_
  intro p e s m below meth c X hr hlk hH hname ls hl
  dsimp only [f_X12_backs] at hF
  replace hl : lv_has ls 2 [(0, .ref (q 53)), (1, .int a0)] := hl
  refine lv_aload_n X.x X.b (dk DX12_backs_0 0 rfl) rfl (lv_at hl 0 rfl) ?_
  refine lv_dup X.x X.b (dk DX12_backs_0 1 rfl) rfl ?_
  refine og_getJ OX12 X hq hH 37 (by decide) rfl kF_X12_375 (dk DX12_backs_0 2 rfl) ?_
  refine lv_aload_n X.x X.b (dk DX12_backs_0 3 rfl) rfl (lv_at hl 0 rfl) ?_
  refine og_getR (t := 0) OX12 X hq hH 36 (by decide) rfl kF_X12_63 (dk DX12_backs_0 4 rfl) ?_
  refine lv_iload_n X.x X.b (dk DX12_backs_0 5 rfl) rfl (lv_at hl 1 rfl) ?_
  obtain ⟨c1, hF⟩ := gd hF
  refine og_iald X hq hH 36 (by decide) rfl (inb_in c1) (dk DX12_backs_0 6 rfl) ?_
  obtain ⟨x2, e3, hF⟩ := bd hF
  refine mr_cl0 hH ⟨rfl, rfl⟩ (mr_runS (As := [.int (st.2.2.1 36 (a0 : Int32).toNatClampNeg)]) (rest := [.long (st.2.1 37), .ref (q 53)]) X hH (c_X12_bit e3) kM_X12_111 kT_X12_bit kN_X12 kC_X12_bit hd_X12_bit ⟨Nat.le_of_ble_eq_true rfl, Nat.le_of_ble_eq_true rfl⟩ rfl hl.1 (Nat.le_of_ble_eq_true rfl) (dk DX12_backs_0 7 rfl) ⟨Nat.zero_le _, Nat.zero_le _⟩) (fun r h1 H locs hp hH => ?_)
  obtain ⟨hr1, hr2⟩ := hp; rw [hr1]; rw [hr2] at hH; clear hr1 hr2
  refine lv_ldc2 (v := (-1)) X.x X.b X.ow (X.ts _ kK_X12_109) (dk DX12_backs_0 8 rfl) ?_
  refine lv_lxor X.x X.b (dk DX12_backs_0 9 rfl) ?_
  refine lv_land X.x X.b (dk DX12_backs_0 10 rfl) ?_
  refine og_putJ OX12 X hq hH 37 (by decide) rfl kF_X12_375 rfl rfl rfl (dk DX12_backs_0 11 rfl) (fun H locs hH => ?_)
  obtain ⟨t4, e5⟩ : ∃ y, y = oJ st 37 ((st.2.1 37) &&& (x2 ^^^ ((-1)))) := ⟨_, rfl⟩
  rw [← e5] at hH
  replace hF := bnd_e hF e5
  refine lv_aload_n X.x X.b (dk DX12_backs_0 12 rfl) rfl (lv_at hl 0 rfl) ?_
  refine og_getR (t := 0) OX12 X hq hH 36 (by decide) rfl kF_X12_63 (dk DX12_backs_0 13 rfl) ?_
  refine lv_iload_n X.x X.b (dk DX12_backs_0 14 rfl) rfl (lv_at hl 1 rfl) ?_
  refine lv_iconst (v := (-1)) X.x X.b (dk DX12_backs_0 15 rfl) (by decide) ?_
  refine og_iast X hq hH 36 (by decide) rfl (inb_in c1) (dk DX12_backs_0 16 rfl) (fun H locs hH => ?_)
  obtain ⟨t6, e7⟩ : ∃ y, y = oA t4 36 (upd (t4.2.2.1 36) (a0 : Int32).toNatClampNeg ((-1))) := ⟨_, rfl⟩
  rw [← e7] at hH
  replace hF := bnd_e hF e7
  cases sm hF
  exact mr_vret X hr hlk hH rfl (dk DX12_backs_0 17 rfl)
-- X12_keeps
abbrev rm_X12_keeps : Room := { frames := 0, cells := 0, slots := 0, locals := 0 }
theorem hd_X12_keeps : mHd yX12_keeps 4 := ⟨by decide +kernel, by decide +kernel, by decide +kernel⟩
theorem DX12_keeps_0 : ∀ t ∈ ([(0, .aload_n 2, 1), (1, .iload 4, 2), (3, .aload_n 0, 1), (4, .getfield 248, 3), (7, .iastore, 1), (8, .aload_n 3, 1), (9, .iload 4, 2), (11, .aload_n 0, 1), (12, .getfield 250, 3), (15, .iastore, 1), (16, .iconst 0, 1), (17, .istore 5, 2), (19, .iload 5, 2), (21, .aload_n 0, 1), (22, .getfield 250, 3), (25, .if_icmp .ge 26, 3), (28, .aload_n 1, 1), (29, .bipush 64, 2), (31, .iload 4, 2), (33, .imul, 1), (34, .iload 5, 2), (36, .iadd, 1), (37, .aload_n 0, 1), (38, .getfield 7, 3), (41, .iload 5, 2), (43, .laload, 1), (44, .lastore, 1), (45, .iinc 5 1, 3), (48, .goto (-29), 3), (51, .return_, 1)] : List (Nat × Instr × Nat)), decode cX12_keeps t.1 = .ok (t.2.1, t.2.2) := by decide +kernel
noncomputable def f_X12_keeps_19 (a0 : Nat) (na0 : Nat) (a1 : Nat) (na1 : Nat) (a2 : Nat) (na2 : Nat) (b4 : Int32) : (OS × Int32) → Option ((OS × Int32) ⊕ (OS)) := fun z => match z with | (s0, b5) => (if (s0.1 1) ≤ b5 then some (.inr s0) else if inb b5 64 = true then if inb (((64 : Int32) * b4) + b5) na0 = true then bnd (oB s0 a0 (vp_updL (s0.2.2.2 a0) (((64 : Int32) * b4) + b5 : Int32).toNatClampNeg (s0.2.2.2 3 (b5 : Int32).toNatClampNeg))) (fun t10 => bnd (b5 + 1 : Int32) (fun v12 => some (.inl ((t10, v12))))) else none else none)
noncomputable def f_X12_keeps (st : OS) (a0 : Nat) (na0 : Nat) (a1 : Nat) (na1 : Nat) (a2 : Nat) (na2 : Nat) (a3 : Int32) : Option (OS) := if inb a3 na1 = true then bnd (oA st a1 (upd (st.2.2.1 a1) (a3 : Int32).toNatClampNeg (st.1 0))) (fun t2 => if inb a3 na2 = true then bnd (oA t2 a2 (upd (t2.2.2.1 a2) (a3 : Int32).toNatClampNeg (t2.1 1))) (fun t5 => (lpv (f_X12_keeps_19 a0 na0 a1 na1 a2 na2 a3) ((t5, 0))).bind (fun x14 => some x14)) else none) else none
set_option maxHeartbeats 4000000 in
set_option maxRecDepth 100000 in
theorem w_X12_keeps_19 {p : Program} {l : Launch} {e : Env} {s : State} {m : MethodId} {args : Array Value} {below : List Frame} {meth : Method} {c : Code} {Q : State → Prop} {G : mG} {h : mM} {q : Nat → Nat} {a0 : Nat} {na0 : Nat} {a1 : Nat} {na1 : Nat} {a2 : Nat} {na2 : Nat} (hq : oinj LX12 q) (hka0 : a0 < 53) (hsa0 : LX12.2.2 a0 = (3, na0)) (hka1 : a1 < 53) (hsa1 : LX12.2.2 a1 = (2, na1)) (hka2 : a2 < 53) (hsa2 : LX12.2.2 a2 = (2, na2)) (X : mX G p m c cX12_keeps 6 s args RX12) (b4 : Int32) : ∀ (z : OS × Int32) (r : OS), lpv (f_X12_keeps_19 a0 na0 a1 na1 a2 na2 b4) z = some r → ∀ (H : Heap) (locs : List Loc) (ls : Array Slot), mH G (oset LX12 G q z.1 h) s.heap H locs → lv_has ls 6 [(0, .ref (q 53)), (1, .ref (q a0)), (4, .int b4), (5, .int z.2)] → (∀ (H : Heap) (locs : List Loc) (ls : Array Slot), mH G (oset LX12 G q r h) s.heap H locs → lv_has ls 6 [] → W p l e rm_X12_keeps s m args below meth c H locs 0 0 Q (F0 m 51 ls [])) → W p l e rm_X12_keeps s m args below meth c H locs 0 0 Q (F0 m 19 ls []) := by
  refine lpv_rec ?_
  intro z r x hF hx H locs ls hH hl K0
  obtain ⟨s0, b5⟩ := z
  dsimp only [f_X12_keeps_19] at hF
  try dsimp only at hH hl
  refine lv_iload X.x X.b (dk DX12_keeps_0 12 rfl) (lv_at hl 3 rfl) ?_
  refine lv_aload_n X.x X.b (dk DX12_keeps_0 13 rfl) rfl (lv_at hl 0 rfl) ?_
  refine og_getI OX12 X hq hH 1 (by decide) rfl kF_X12_250 (dk DX12_keeps_0 14 rfl) ?_
  refine lv_icmp_ge (tgt := 51) X.x X.b (dk DX12_keeps_0 15 rfl) (by decide) (fun c7 => ?_) (fun c7 => ?_)
  · replace hF := if_t hF c7
    have hr9 := lp_r hF hx
    subst hr9
    exact K0 _ _ _ hH (lv_sub hl [] rfl)
  · replace hF := if_f hF c7
    refine lv_aload_n X.x X.b (dk DX12_keeps_0 16 rfl) rfl (lv_at hl 1 rfl) ?_
    refine lv_bipush (v := 64) X.x X.b (dk DX12_keeps_0 17 rfl) (by decide) ?_
    refine lv_iload X.x X.b (dk DX12_keeps_0 18 rfl) (lv_at hl 2 rfl) ?_
    refine lv_imul X.x X.b (dk DX12_keeps_0 19 rfl) ?_
    refine lv_iload X.x X.b (dk DX12_keeps_0 20 rfl) (lv_at hl 3 rfl) ?_
    refine lv_iadd X.x X.b (dk DX12_keeps_0 21 rfl) ?_
    refine lv_aload_n X.x X.b (dk DX12_keeps_0 22 rfl) rfl (lv_at hl 0 rfl) ?_
    refine og_getR (t := 1) OX12 X hq hH 3 (by decide) rfl kF_X12_7 (dk DX12_keeps_0 23 rfl) ?_
    refine lv_iload X.x X.b (dk DX12_keeps_0 24 rfl) (lv_at hl 3 rfl) ?_
    obtain ⟨c8, hF⟩ := gd hF
    refine og_lald X hq hH 3 (by decide) rfl (inb_in c8) (dk DX12_keeps_0 25 rfl) ?_
    obtain ⟨c9, hF⟩ := gd hF
    refine og_last X hq hH a0 hka0 hsa0 (inb_in c9) (dk DX12_keeps_0 26 rfl) (fun H locs hH => ?_)
    obtain ⟨t10, e11⟩ : ∃ y, y = oB s0 a0 (vp_updL (s0.2.2.2 a0) (((64 : Int32) * b4) + b5 : Int32).toNatClampNeg (s0.2.2.2 3 (b5 : Int32).toNatClampNeg)) := ⟨_, rfl⟩
    rw [← e11] at hH
    replace hF := bnd_e hF e11
    obtain ⟨v12, e13⟩ : ∃ y : Int32, y = b5 + 1 := ⟨_, rfl⟩
    replace hF := bnd_e hF e13
    refine lv_iinc (v := v12) (lv' := [(5, .int v12), (0, .ref (q 53)), (1, .ref (q a0)), (4, .int b4)]) X.x X.b (dk DX12_keeps_0 27 rfl) hl (k := 3) rfl (by rw [e13]; rfl) (by decide) rfl (fun ls hl => ?_)
    replace hl : lv_has ls 6 [(0, .ref (q 53)), (1, .ref (q a0)), (4, .int b4), (5, .int v12)] := lv_sub hl [1, 2, 3, 0] rfl
    refine lv_goto (tgt := 19) X.x X.b (dk DX12_keeps_0 28 rfl) (by decide) ?_
    exact (lp_l hF hx) _ _ _ hH (lv_sub hl [0, 1, 2, 3] rfl) K0
set_option maxHeartbeats 4000000 in
set_option maxRecDepth 100000 in
theorem c_X12_keeps {l : Launch} {G : mG} {h : mM} {q : Nat → Nat} {a0 : Nat} {na0 : Nat} {a1 : Nat} {na1 : Nat} {a2 : Nat} {na2 : Nat} (hq : oinj LX12 q) (hka0 : a0 < 53) (hsa0 : LX12.2.2 a0 = (3, na0)) (hka1 : a1 < 53) (hsa1 : LX12.2.2 a1 = (2, na1)) (hka2 : a2 < 53) (hsa2 : LX12.2.2 a2 = (2, na2)) {st : OS} {a3 : Int32} {x : OS} (hF : f_X12_keeps st a0 na0 a1 na1 a2 na2 a3 = some x) : cQ l G yX12_keeps cX12_keeps 6 none rm_X12_keeps [.ref (q 53), .ref (q a0), .ref (q a1), .ref (q a2), .int a3] (oset LX12 G q st h) (mQv G (fun h1 => h1 = oset LX12 G q x h)) := by
  refine mp_of (by decide +kernel) (Nat.le_of_ble_eq_true rfl) ?_
  intro p e s m below meth c X hr hlk hH hname ls hl
  dsimp only [f_X12_keeps] at hF
  replace hl : lv_has ls 6 [(0, .ref (q 53)), (1, .ref (q a0)), (2, .ref (q a1)), (3, .ref (q a2)), (4, .int a3)] := hl
  refine lv_aload_n X.x X.b (dk DX12_keeps_0 0 rfl) rfl (lv_at hl 2 rfl) ?_
  refine lv_iload X.x X.b (dk DX12_keeps_0 1 rfl) (lv_at hl 4 rfl) ?_
  refine lv_aload_n X.x X.b (dk DX12_keeps_0 2 rfl) rfl (lv_at hl 0 rfl) ?_
  refine og_getI OX12 X hq hH 0 (by decide) rfl kF_X12_248 (dk DX12_keeps_0 3 rfl) ?_
  obtain ⟨c1, hF⟩ := gd hF
  refine og_iast X hq hH a1 hka1 hsa1 (inb_in c1) (dk DX12_keeps_0 4 rfl) (fun H locs hH => ?_)
  obtain ⟨t2, e3⟩ : ∃ y, y = oA st a1 (upd (st.2.2.1 a1) (a3 : Int32).toNatClampNeg (st.1 0)) := ⟨_, rfl⟩
  rw [← e3] at hH
  replace hF := bnd_e hF e3
  refine lv_aload_n X.x X.b (dk DX12_keeps_0 5 rfl) rfl (lv_at hl 3 rfl) ?_
  refine lv_iload X.x X.b (dk DX12_keeps_0 6 rfl) (lv_at hl 4 rfl) ?_
  refine lv_aload_n X.x X.b (dk DX12_keeps_0 7 rfl) rfl (lv_at hl 0 rfl) ?_
  refine og_getI OX12 X hq hH 1 (by decide) rfl kF_X12_250 (dk DX12_keeps_0 8 rfl) ?_
  obtain ⟨c4, hF⟩ := gd hF
  refine og_iast X hq hH a2 hka2 hsa2 (inb_in c4) (dk DX12_keeps_0 9 rfl) (fun H locs hH => ?_)
  obtain ⟨t5, e6⟩ : ∃ y, y = oA t2 a2 (upd (t2.2.2.1 a2) (a3 : Int32).toNatClampNeg (t2.1 1)) := ⟨_, rfl⟩
  rw [← e6] at hH
  replace hF := bnd_e hF e6
  refine lv_iconst (v := 0) X.x X.b (dk DX12_keeps_0 10 rfl) (by decide) ?_
  refine lv_istore (lv' := [(5, .int 0), (0, .ref (q 53)), (1, .ref (q a0)), (2, .ref (q a1)), (3, .ref (q a2)), (4, .int a3)]) X.x X.b (dk DX12_keeps_0 11 rfl) hl (by decide) rfl (fun ls hl => ?_)
  replace hl : lv_has ls 6 [(0, .ref (q 53)), (1, .ref (q a0)), (4, .int a3), (5, .int 0)] := lv_sub hl [1, 2, 5, 0] rfl
  obtain ⟨x14, e15, hF⟩ := bd hF
  replace hl : lv_has ls 6 [(0, .ref (q 53)), (1, .ref (q a0)), (4, .int a3), (5, .int 0)] := lv_sub hl [0, 1, 2, 3] rfl
  refine w_X12_keeps_19 hq hka0 hsa0 hka1 hsa1 hka2 hsa2 X a3 _ _ e15 _ _ _ hH hl (fun H locs ls hH hl => ?_)
  cases sm hF
  exact mr_vret X hr hlk hH rfl (dk DX12_keeps_0 29 rfl)
-- X12_takes
abbrev rm_X12_takes : Room := { frames := 0, cells := 0, slots := 0, locals := 0 }
theorem hd_X12_takes : mHd yX12_takes 4 := ⟨by decide +kernel, by decide +kernel, by decide +kernel⟩
theorem DX12_takes_0 : ∀ t ∈ ([(0, .aload_n 0, 1), (1, .aload_n 2, 1), (2, .iload 4, 2), (4, .iaload, 1), (5, .putfield 248, 3), (8, .aload_n 0, 1), (9, .aload_n 3, 1), (10, .iload 4, 2), (12, .iaload, 1), (13, .putfield 250, 3), (16, .iconst 0, 1), (17, .istore 5, 2), (19, .iload 5, 2), (21, .aload_n 0, 1), (22, .getfield 250, 3), (25, .if_icmp .ge 26, 3), (28, .aload_n 0, 1), (29, .getfield 7, 3), (32, .iload 5, 2), (34, .aload_n 1, 1), (35, .bipush 64, 2), (37, .iload 4, 2), (39, .imul, 1), (40, .iload 5, 2), (42, .iadd, 1), (43, .laload, 1), (44, .lastore, 1), (45, .iinc 5 1, 3), (48, .goto (-29), 3), (51, .return_, 1)] : List (Nat × Instr × Nat)), decode cX12_takes t.1 = .ok (t.2.1, t.2.2) := by decide +kernel
noncomputable def f_X12_takes_19 (a0 : Nat) (na0 : Nat) (a1 : Nat) (na1 : Nat) (a2 : Nat) (na2 : Nat) (b4 : Int32) : (OS × Int32) → Option ((OS × Int32) ⊕ (OS)) := fun z => match z with | (s0, b5) => (if (s0.1 1) ≤ b5 then some (.inr s0) else if inb (((64 : Int32) * b4) + b5) na0 = true then if inb b5 64 = true then bnd (oB s0 3 (vp_updL (s0.2.2.2 3) (b5 : Int32).toNatClampNeg (s0.2.2.2 a0 (((64 : Int32) * b4) + b5 : Int32).toNatClampNeg))) (fun t10 => bnd (b5 + 1 : Int32) (fun v12 => some (.inl ((t10, v12))))) else none else none)
noncomputable def f_X12_takes (st : OS) (a0 : Nat) (na0 : Nat) (a1 : Nat) (na1 : Nat) (a2 : Nat) (na2 : Nat) (a3 : Int32) : Option (OS) := if inb a3 na1 = true then bnd (oI st 0 (st.2.2.1 a1 (a3 : Int32).toNatClampNeg)) (fun t2 => if inb a3 na2 = true then bnd (oI t2 1 (t2.2.2.1 a2 (a3 : Int32).toNatClampNeg)) (fun t5 => (lpv (f_X12_takes_19 a0 na0 a1 na1 a2 na2 a3) ((t5, 0))).bind (fun x14 => some x14)) else none) else none
set_option maxHeartbeats 4000000 in
set_option maxRecDepth 100000 in
theorem w_X12_takes_19 {p : Program} {l : Launch} {e : Env} {s : State} {m : MethodId} {args : Array Value} {below : List Frame} {meth : Method} {c : Code} {Q : State → Prop} {G : mG} {h : mM} {q : Nat → Nat} {a0 : Nat} {na0 : Nat} {a1 : Nat} {na1 : Nat} {a2 : Nat} {na2 : Nat} (hq : oinj LX12 q) (hka0 : a0 < 53) (hsa0 : LX12.2.2 a0 = (3, na0)) (hka1 : a1 < 53) (hsa1 : LX12.2.2 a1 = (2, na1)) (hka2 : a2 < 53) (hsa2 : LX12.2.2 a2 = (2, na2)) (X : mX G p m c cX12_takes 6 s args RX12) (b4 : Int32) : ∀ (z : OS × Int32) (r : OS), lpv (f_X12_takes_19 a0 na0 a1 na1 a2 na2 b4) z = some r → ∀ (H : Heap) (locs : List Loc) (ls : Array Slot), mH G (oset LX12 G q z.1 h) s.heap H locs → lv_has ls 6 [(0, .ref (q 53)), (1, .ref (q a0)), (4, .int b4), (5, .int z.2)] → (∀ (H : Heap) (locs : List Loc) (ls : Array Slot), mH G (oset LX12 G q r h) s.heap H locs → lv_has ls 6 [] → W p l e rm_X12_takes s m args below meth c H locs 0 0 Q (F0 m 51 ls [])) → W p l e rm_X12_takes s m args below meth c H locs 0 0 Q (F0 m 19 ls []) := by
  refine lpv_rec ?_
  intro z r x hF hx H locs ls hH hl K0
  obtain ⟨s0, b5⟩ := z
  dsimp only [f_X12_takes_19] at hF
  try dsimp only at hH hl
  refine lv_iload X.x X.b (dk DX12_takes_0 12 rfl) (lv_at hl 3 rfl) ?_
  refine lv_aload_n X.x X.b (dk DX12_takes_0 13 rfl) rfl (lv_at hl 0 rfl) ?_
  refine og_getI OX12 X hq hH 1 (by decide) rfl kF_X12_250 (dk DX12_takes_0 14 rfl) ?_
  refine lv_icmp_ge (tgt := 51) X.x X.b (dk DX12_takes_0 15 rfl) (by decide) (fun c7 => ?_) (fun c7 => ?_)
  · replace hF := if_t hF c7
    have hr9 := lp_r hF hx
    subst hr9
    exact K0 _ _ _ hH (lv_sub hl [] rfl)
  · replace hF := if_f hF c7
    refine lv_aload_n X.x X.b (dk DX12_takes_0 16 rfl) rfl (lv_at hl 0 rfl) ?_
    refine og_getR (t := 1) OX12 X hq hH 3 (by decide) rfl kF_X12_7 (dk DX12_takes_0 17 rfl) ?_
    refine lv_iload X.x X.b (dk DX12_takes_0 18 rfl) (lv_at hl 3 rfl) ?_
    refine lv_aload_n X.x X.b (dk DX12_takes_0 19 rfl) rfl (lv_at hl 1 rfl) ?_
    refine lv_bipush (v := 64) X.x X.b (dk DX12_takes_0 20 rfl) (by decide) ?_
    refine lv_iload X.x X.b (dk DX12_takes_0 21 rfl) (lv_at hl 2 rfl) ?_
    refine lv_imul X.x X.b (dk DX12_takes_0 22 rfl) ?_
    refine lv_iload X.x X.b (dk DX12_takes_0 23 rfl) (lv_at hl 3 rfl) ?_
    refine lv_iadd X.x X.b (dk DX12_takes_0 24 rfl) ?_
    obtain ⟨c8, hF⟩ := gd hF
    refine og_lald X hq hH a0 hka0 hsa0 (inb_in c8) (dk DX12_takes_0 25 rfl) ?_
    obtain ⟨c9, hF⟩ := gd hF
    refine og_last X hq hH 3 (by decide) rfl (inb_in c9) (dk DX12_takes_0 26 rfl) (fun H locs hH => ?_)
    obtain ⟨t10, e11⟩ : ∃ y, y = oB s0 3 (vp_updL (s0.2.2.2 3) (b5 : Int32).toNatClampNeg (s0.2.2.2 a0 (((64 : Int32) * b4) + b5 : Int32).toNatClampNeg)) := ⟨_, rfl⟩
    rw [← e11] at hH
    replace hF := bnd_e hF e11
    obtain ⟨v12, e13⟩ : ∃ y : Int32, y = b5 + 1 := ⟨_, rfl⟩
    replace hF := bnd_e hF e13
    refine lv_iinc (v := v12) (lv' := [(5, .int v12), (0, .ref (q 53)), (1, .ref (q a0)), (4, .int b4)]) X.x X.b (dk DX12_takes_0 27 rfl) hl (k := 3) rfl (by rw [e13]; rfl) (by decide) rfl (fun ls hl => ?_)
    replace hl : lv_has ls 6 [(0, .ref (q 53)), (1, .ref (q a0)), (4, .int b4), (5, .int v12)] := lv_sub hl [1, 2, 3, 0] rfl
    refine lv_goto (tgt := 19) X.x X.b (dk DX12_takes_0 28 rfl) (by decide) ?_
    exact (lp_l hF hx) _ _ _ hH (lv_sub hl [0, 1, 2, 3] rfl) K0
set_option maxHeartbeats 4000000 in
set_option maxRecDepth 100000 in
theorem c_X12_takes {l : Launch} {G : mG} {h : mM} {q : Nat → Nat} {a0 : Nat} {na0 : Nat} {a1 : Nat} {na1 : Nat} {a2 : Nat} {na2 : Nat} (hq : oinj LX12 q) (hka0 : a0 < 53) (hsa0 : LX12.2.2 a0 = (3, na0)) (hka1 : a1 < 53) (hsa1 : LX12.2.2 a1 = (2, na1)) (hka2 : a2 < 53) (hsa2 : LX12.2.2 a2 = (2, na2)) {st : OS} {a3 : Int32} {x : OS} (hF : f_X12_takes st a0 na0 a1 na1 a2 na2 a3 = some x) : cQ l G yX12_takes cX12_takes 6 none rm_X12_takes [.ref (q 53), .ref (q a0), .ref (q a1), .ref (q a2), .int a3] (oset LX12 G q st h) (mQv G (fun h1 => h1 = oset LX12 G q x h)) := by
  refine mp_of (by decide +kernel) (Nat.le_of_ble_eq_true rfl) ?_
  intro p e s m below meth c X hr hlk hH hname ls hl
  dsimp only [f_X12_takes] at hF
  replace hl : lv_has ls 6 [(0, .ref (q 53)), (1, .ref (q a0)), (2, .ref (q a1)), (3, .ref (q a2)), (4, .int a3)] := hl
  refine lv_aload_n X.x X.b (dk DX12_takes_0 0 rfl) rfl (lv_at hl 0 rfl) ?_
  refine lv_aload_n X.x X.b (dk DX12_takes_0 1 rfl) rfl (lv_at hl 2 rfl) ?_
  refine lv_iload X.x X.b (dk DX12_takes_0 2 rfl) (lv_at hl 4 rfl) ?_
  obtain ⟨c1, hF⟩ := gd hF
  refine og_iald X hq hH a1 hka1 hsa1 (inb_in c1) (dk DX12_takes_0 3 rfl) ?_
  refine og_putI OX12 X hq hH 0 (by decide) rfl kF_X12_248 rfl rfl rfl (dk DX12_takes_0 4 rfl) (fun H locs hH => ?_)
  obtain ⟨t2, e3⟩ : ∃ y, y = oI st 0 (st.2.2.1 a1 (a3 : Int32).toNatClampNeg) := ⟨_, rfl⟩
  rw [← e3] at hH
  replace hF := bnd_e hF e3
  refine lv_aload_n X.x X.b (dk DX12_takes_0 5 rfl) rfl (lv_at hl 0 rfl) ?_
  refine lv_aload_n X.x X.b (dk DX12_takes_0 6 rfl) rfl (lv_at hl 3 rfl) ?_
  refine lv_iload X.x X.b (dk DX12_takes_0 7 rfl) (lv_at hl 4 rfl) ?_
  obtain ⟨c4, hF⟩ := gd hF
  refine og_iald X hq hH a2 hka2 hsa2 (inb_in c4) (dk DX12_takes_0 8 rfl) ?_
  refine og_putI OX12 X hq hH 1 (by decide) rfl kF_X12_250 rfl rfl rfl (dk DX12_takes_0 9 rfl) (fun H locs hH => ?_)
  obtain ⟨t5, e6⟩ : ∃ y, y = oI t2 1 (t2.2.2.1 a2 (a3 : Int32).toNatClampNeg) := ⟨_, rfl⟩
  rw [← e6] at hH
  replace hF := bnd_e hF e6
  refine lv_iconst (v := 0) X.x X.b (dk DX12_takes_0 10 rfl) (by decide) ?_
  refine lv_istore (lv' := [(5, .int 0), (0, .ref (q 53)), (1, .ref (q a0)), (2, .ref (q a1)), (3, .ref (q a2)), (4, .int a3)]) X.x X.b (dk DX12_takes_0 11 rfl) hl (by decide) rfl (fun ls hl => ?_)
  replace hl : lv_has ls 6 [(0, .ref (q 53)), (1, .ref (q a0)), (4, .int a3), (5, .int 0)] := lv_sub hl [1, 2, 5, 0] rfl
  obtain ⟨x14, e15, hF⟩ := bd hF
  replace hl : lv_has ls 6 [(0, .ref (q 53)), (1, .ref (q a0)), (4, .int a3), (5, .int 0)] := lv_sub hl [0, 1, 2, 3] rfl
  refine w_X12_takes_19 hq hka0 hsa0 hka1 hsa1 hka2 hsa2 X a3 _ _ e15 _ _ _ hH hl (fun H locs ls hH hl => ?_)
  cases sm hF
  exact mr_vret X hr hlk hH rfl (dk DX12_takes_0 29 rfl)
-- X12_notes
abbrev rm_X12_notes : Room := { frames := 1, cells := 0, slots := 0, locals := 25 }
theorem hd_X12_notes : mHd yX12_notes 0 := ⟨by decide +kernel, by decide +kernel, by decide +kernel⟩
theorem DX12_notes_0 : ∀ t ∈ ([(0, .aload_n 0, 1), (1, .getfield 253, 3), (4, .bipush 20, 2), (6, .if_icmp .ne 93, 3), (9, .iconst 1, 1), (10, .istore_n 1, 1), (11, .iload_n 1, 1), (12, .bipush 20, 2), (14, .if_icmp .ge 75, 3), (17, .aload_n 0, 1), (18, .getfield 72, 3), (21, .iload_n 1, 1), (22, .iconst 1, 1), (23, .isub, 1), (24, .aload_n 0, 1), (25, .getfield 72, 3), (28, .iload_n 1, 1), (29, .iaload, 1), (30, .iastore, 1), (31, .aload_n 0, 1), (32, .getfield 75, 3), (35, .iload_n 1, 1), (36, .iconst 1, 1), (37, .isub, 1), (38, .aload_n 0, 1), (39, .getfield 75, 3), (42, .iload_n 1, 1), (43, .iaload, 1), (44, .iastore, 1), (45, .iconst 0, 1), (46, .istore_n 2, 1), (47, .iload_n 2, 1), (48, .bipush 64, 2), (50, .if_icmp .ge 33, 3), (53, .aload_n 0, 1), (54, .getfield 66, 3), (57, .bipush 64, 2), (59, .iload_n 1, 1), (60, .iconst 1, 1), (61, .isub, 1), (62, .imul, 1), (63, .iload_n 2, 1), (64, .iadd, 1), (65, .aload_n 0, 1), (66, .getfield 66, 3), (69, .bipush 64, 2), (71, .iload_n 1, 1), (72, .imul, 1), (73, .iload_n 2, 1), (74, .iadd, 1), (75, .laload, 1), (76, .lastore, 1), (77, .iinc 2 1, 3), (80, .goto (-33), 3), (83, .iinc 1 1, 3), (86, .goto (-75), 3), (89, .aload_n 0, 1), (90, .dup, 1), (91, .getfield 253, 3), (94, .iconst 1, 1)] : List (Nat × Instr × Nat)), decode cX12_notes t.1 = .ok (t.2.1, t.2.2) := by decide +kernel
theorem DX12_notes_1 : ∀ t ∈ ([(95, .isub, 1), (96, .putfield 253, 3), (99, .aload_n 0, 1), (100, .aload_n 0, 1), (101, .getfield 66, 3), (104, .aload_n 0, 1), (105, .getfield 72, 3), (108, .aload_n 0, 1), (109, .getfield 75, 3), (112, .aload_n 0, 1), (113, .getfield 253, 3), (116, .invokevirtual 410, 3), (119, .aload_n 0, 1), (120, .dup, 1), (121, .getfield 253, 3), (124, .iconst 1, 1), (125, .iadd, 1), (126, .putfield 253, 3), (129, .return_, 1)] : List (Nat × Instr × Nat)), decode cX12_notes t.1 = .ok (t.2.1, t.2.2) := by decide +kernel
noncomputable def f_X12_notes_47 (b1 : Int32) : (OS × Int32) → Option ((OS × Int32) ⊕ (OS)) := fun z => match z with | (s0, b2) => (if 64 ≤ b2 then some (.inr s0) else if inb (((64 : Int32) * b1) + b2) 1280 = true then if inb (((64 : Int32) * (b1 - 1)) + b2) 1280 = true then bnd (oB s0 38 (vp_updL (s0.2.2.2 38) (((64 : Int32) * (b1 - 1)) + b2 : Int32).toNatClampNeg (s0.2.2.2 38 (((64 : Int32) * b1) + b2 : Int32).toNatClampNeg))) (fun t16 => bnd (b2 + 1 : Int32) (fun v18 => some (.inl ((t16, v18))))) else none else none)
noncomputable def f_X12_notes_11 : (OS × Int32) → Option ((OS × Int32) ⊕ (OS)) := fun z => match z with | (s0, b1) => (if 20 ≤ b1 then some (.inr s0) else if inb b1 20 = true then if inb (b1 - 1) 20 = true then bnd (oA s0 40 (upd (s0.2.2.1 40) (b1 - 1 : Int32).toNatClampNeg (s0.2.2.1 40 (b1 : Int32).toNatClampNeg))) (fun t9 => bnd (oA t9 41 (upd (t9.2.2.1 41) (b1 - 1 : Int32).toNatClampNeg (t9.2.2.1 41 (b1 : Int32).toNatClampNeg))) (fun t11 => (lpv (f_X12_notes_47 b1) ((t11, 0))).bind (fun x20 => bnd (b1 + 1 : Int32) (fun v23 => some (.inl ((x20, v23))))))) else none else none)
noncomputable def f_X12_notes (st : OS) : Option (OS) := (if (st.1 44) = 20 then (lpv (f_X12_notes_11) ((st, 1))).bind (fun x25 => bnd (oI x25 44 ((x25.1 44) - 1)) (fun t28 => (f_X12_keeps t28 38 1280 40 20 41 20 (t28.1 44)).bind (fun x30 => bnd (oI x30 44 ((x30.1 44) + 1)) (fun t32 => some t32)))) else (f_X12_keeps st 38 1280 40 20 41 20 (st.1 44)).bind (fun x2 => bnd (oI x2 44 ((x2.1 44) + 1)) (fun t4 => some t4)))
set_option maxHeartbeats 4000000 in
set_option maxRecDepth 100000 in
theorem w_X12_notes_47 {p : Program} {l : Launch} {e : Env} {s : State} {m : MethodId} {args : Array Value} {below : List Frame} {meth : Method} {c : Code} {Q : State → Prop} {G : mG} {h : mM} {q : Nat → Nat} (hq : oinj LX12 q) (X : mX G p m c cX12_notes 3 s args RX12) (b1 : Int32) : ∀ (z : OS × Int32) (r : OS), lpv (f_X12_notes_47 b1) z = some r → ∀ (H : Heap) (locs : List Loc) (ls : Array Slot), mH G (oset LX12 G q z.1 h) s.heap H locs → lv_has ls 3 [(0, .ref (q 53)), (1, .int b1), (2, .int z.2)] → (∀ (H : Heap) (locs : List Loc) (ls : Array Slot), mH G (oset LX12 G q r h) s.heap H locs → lv_has ls 3 [(0, .ref (q 53)), (1, .int b1)] → W p l e rm_X12_notes s m args below meth c H locs 0 0 Q (F0 m 83 ls [])) → W p l e rm_X12_notes s m args below meth c H locs 0 0 Q (F0 m 47 ls []) := by
  refine lpv_rec ?_
  intro z r x hF hx H locs ls hH hl K0
  obtain ⟨s0, b2⟩ := z
  dsimp only [f_X12_notes_47] at hF
  try dsimp only at hH hl
  refine lv_iload_n X.x X.b (dk DX12_notes_0 31 rfl) rfl (lv_at hl 2 rfl) ?_
  refine lv_bipush (v := 64) X.x X.b (dk DX12_notes_0 32 rfl) (by decide) ?_
  refine lv_icmp_ge (tgt := 83) X.x X.b (dk DX12_notes_0 33 rfl) (by decide) (fun c13 => ?_) (fun c13 => ?_)
  · replace hF := if_t hF c13
    have hr9 := lp_r hF hx
    subst hr9
    exact K0 _ _ _ hH (lv_sub hl [0, 1] rfl)
  · replace hF := if_f hF c13
    refine lv_aload_n X.x X.b (dk DX12_notes_0 34 rfl) rfl (lv_at hl 0 rfl) ?_
    refine og_getR (t := 1) OX12 X hq hH 38 (by decide) rfl kF_X12_66 (dk DX12_notes_0 35 rfl) ?_
    refine lv_bipush (v := 64) X.x X.b (dk DX12_notes_0 36 rfl) (by decide) ?_
    refine lv_iload_n X.x X.b (dk DX12_notes_0 37 rfl) rfl (lv_at hl 1 rfl) ?_
    refine lv_iconst (v := 1) X.x X.b (dk DX12_notes_0 38 rfl) (by decide) ?_
    refine lv_isub X.x X.b (dk DX12_notes_0 39 rfl) ?_
    refine lv_imul X.x X.b (dk DX12_notes_0 40 rfl) ?_
    refine lv_iload_n X.x X.b (dk DX12_notes_0 41 rfl) rfl (lv_at hl 2 rfl) ?_
    refine lv_iadd X.x X.b (dk DX12_notes_0 42 rfl) ?_
    refine lv_aload_n X.x X.b (dk DX12_notes_0 43 rfl) rfl (lv_at hl 0 rfl) ?_
    refine og_getR (t := 1) OX12 X hq hH 38 (by decide) rfl kF_X12_66 (dk DX12_notes_0 44 rfl) ?_
    refine lv_bipush (v := 64) X.x X.b (dk DX12_notes_0 45 rfl) (by decide) ?_
    refine lv_iload_n X.x X.b (dk DX12_notes_0 46 rfl) rfl (lv_at hl 1 rfl) ?_
    refine lv_imul X.x X.b (dk DX12_notes_0 47 rfl) ?_
    refine lv_iload_n X.x X.b (dk DX12_notes_0 48 rfl) rfl (lv_at hl 2 rfl) ?_
    refine lv_iadd X.x X.b (dk DX12_notes_0 49 rfl) ?_
    obtain ⟨c14, hF⟩ := gd hF
    refine og_lald X hq hH 38 (by decide) rfl (inb_in c14) (dk DX12_notes_0 50 rfl) ?_
    obtain ⟨c15, hF⟩ := gd hF
    refine og_last X hq hH 38 (by decide) rfl (inb_in c15) (dk DX12_notes_0 51 rfl) (fun H locs hH => ?_)
    obtain ⟨t16, e17⟩ : ∃ y, y = oB s0 38 (vp_updL (s0.2.2.2 38) (((64 : Int32) * (b1 - 1)) + b2 : Int32).toNatClampNeg (s0.2.2.2 38 (((64 : Int32) * b1) + b2 : Int32).toNatClampNeg)) := ⟨_, rfl⟩
    rw [← e17] at hH
    replace hF := bnd_e hF e17
    obtain ⟨v18, e19⟩ : ∃ y : Int32, y = b2 + 1 := ⟨_, rfl⟩
    replace hF := bnd_e hF e19
    refine lv_iinc (v := v18) (lv' := [(2, .int v18), (0, .ref (q 53)), (1, .int b1)]) X.x X.b (dk DX12_notes_0 52 rfl) hl (k := 2) rfl (by rw [e19]; rfl) (by decide) rfl (fun ls hl => ?_)
    replace hl : lv_has ls 3 [(0, .ref (q 53)), (1, .int b1), (2, .int v18)] := lv_sub hl [1, 2, 0] rfl
    refine lv_goto (tgt := 47) X.x X.b (dk DX12_notes_0 53 rfl) (by decide) ?_
    exact (lp_l hF hx) _ _ _ hH (lv_sub hl [0, 1, 2] rfl) K0
set_option maxHeartbeats 4000000 in
set_option maxRecDepth 100000 in
theorem w_X12_notes_11 {p : Program} {l : Launch} {e : Env} {s : State} {m : MethodId} {args : Array Value} {below : List Frame} {meth : Method} {c : Code} {Q : State → Prop} {G : mG} {h : mM} {q : Nat → Nat} (hq : oinj LX12 q) (X : mX G p m c cX12_notes 3 s args RX12) : ∀ (z : OS × Int32) (r : OS), lpv (f_X12_notes_11) z = some r → ∀ (H : Heap) (locs : List Loc) (ls : Array Slot), mH G (oset LX12 G q z.1 h) s.heap H locs → lv_has ls 3 [(0, .ref (q 53)), (1, .int z.2)] → (∀ (H : Heap) (locs : List Loc) (ls : Array Slot), mH G (oset LX12 G q r h) s.heap H locs → lv_has ls 3 [(0, .ref (q 53))] → W p l e rm_X12_notes s m args below meth c H locs 0 0 Q (F0 m 89 ls [])) → W p l e rm_X12_notes s m args below meth c H locs 0 0 Q (F0 m 11 ls []) := by
  refine lpv_rec ?_
  intro z r x hF hx H locs ls hH hl K0
  obtain ⟨s0, b1⟩ := z
  dsimp only [f_X12_notes_11] at hF
  try dsimp only at hH hl
  refine lv_iload_n X.x X.b (dk DX12_notes_0 6 rfl) rfl (lv_at hl 1 rfl) ?_
  refine lv_bipush (v := 20) X.x X.b (dk DX12_notes_0 7 rfl) (by decide) ?_
  refine lv_icmp_ge (tgt := 89) X.x X.b (dk DX12_notes_0 8 rfl) (by decide) (fun c6 => ?_) (fun c6 => ?_)
  · replace hF := if_t hF c6
    have hr9 := lp_r hF hx
    subst hr9
    exact K0 _ _ _ hH (lv_sub hl [0] rfl)
  · replace hF := if_f hF c6
    refine lv_aload_n X.x X.b (dk DX12_notes_0 9 rfl) rfl (lv_at hl 0 rfl) ?_
    refine og_getR (t := 0) OX12 X hq hH 40 (by decide) rfl kF_X12_72 (dk DX12_notes_0 10 rfl) ?_
    refine lv_iload_n X.x X.b (dk DX12_notes_0 11 rfl) rfl (lv_at hl 1 rfl) ?_
    refine lv_iconst (v := 1) X.x X.b (dk DX12_notes_0 12 rfl) (by decide) ?_
    refine lv_isub X.x X.b (dk DX12_notes_0 13 rfl) ?_
    refine lv_aload_n X.x X.b (dk DX12_notes_0 14 rfl) rfl (lv_at hl 0 rfl) ?_
    refine og_getR (t := 0) OX12 X hq hH 40 (by decide) rfl kF_X12_72 (dk DX12_notes_0 15 rfl) ?_
    refine lv_iload_n X.x X.b (dk DX12_notes_0 16 rfl) rfl (lv_at hl 1 rfl) ?_
    obtain ⟨c7, hF⟩ := gd hF
    refine og_iald X hq hH 40 (by decide) rfl (inb_in c7) (dk DX12_notes_0 17 rfl) ?_
    obtain ⟨c8, hF⟩ := gd hF
    refine og_iast X hq hH 40 (by decide) rfl (inb_in c8) (dk DX12_notes_0 18 rfl) (fun H locs hH => ?_)
    obtain ⟨t9, e10⟩ : ∃ y, y = oA s0 40 (upd (s0.2.2.1 40) (b1 - 1 : Int32).toNatClampNeg (s0.2.2.1 40 (b1 : Int32).toNatClampNeg)) := ⟨_, rfl⟩
    rw [← e10] at hH
    replace hF := bnd_e hF e10
    refine lv_aload_n X.x X.b (dk DX12_notes_0 19 rfl) rfl (lv_at hl 0 rfl) ?_
    refine og_getR (t := 0) OX12 X hq hH 41 (by decide) rfl kF_X12_75 (dk DX12_notes_0 20 rfl) ?_
    refine lv_iload_n X.x X.b (dk DX12_notes_0 21 rfl) rfl (lv_at hl 1 rfl) ?_
    refine lv_iconst (v := 1) X.x X.b (dk DX12_notes_0 22 rfl) (by decide) ?_
    refine lv_isub X.x X.b (dk DX12_notes_0 23 rfl) ?_
    refine lv_aload_n X.x X.b (dk DX12_notes_0 24 rfl) rfl (lv_at hl 0 rfl) ?_
    refine og_getR (t := 0) OX12 X hq hH 41 (by decide) rfl kF_X12_75 (dk DX12_notes_0 25 rfl) ?_
    refine lv_iload_n X.x X.b (dk DX12_notes_0 26 rfl) rfl (lv_at hl 1 rfl) ?_
    refine og_iald X hq hH 41 (by decide) rfl (inb_in c7) (dk DX12_notes_0 27 rfl) ?_
    refine og_iast X hq hH 41 (by decide) rfl (inb_in c8) (dk DX12_notes_0 28 rfl) (fun H locs hH => ?_)
    obtain ⟨t11, e12⟩ : ∃ y, y = oA t9 41 (upd (t9.2.2.1 41) (b1 - 1 : Int32).toNatClampNeg (t9.2.2.1 41 (b1 : Int32).toNatClampNeg)) := ⟨_, rfl⟩
    rw [← e12] at hH
    replace hF := bnd_e hF e12
    refine lv_iconst (v := 0) X.x X.b (dk DX12_notes_0 29 rfl) (by decide) ?_
    refine lv_istore_n (lv' := [(2, .int 0), (0, .ref (q 53)), (1, .int b1)]) X.x X.b (dk DX12_notes_0 30 rfl) rfl hl (by decide) rfl (fun ls hl => ?_)
    replace hl : lv_has ls 3 [(0, .ref (q 53)), (1, .int b1), (2, .int 0)] := lv_sub hl [1, 2, 0] rfl
    obtain ⟨x20, e21, hF⟩ := bd hF
    replace hl : lv_has ls 3 [(0, .ref (q 53)), (1, .int b1), (2, .int 0)] := lv_sub hl [0, 1, 2] rfl
    refine w_X12_notes_47 hq X b1 _ _ e21 _ _ _ hH hl (fun H locs ls hH hl => ?_)
    obtain ⟨v23, e24⟩ : ∃ y : Int32, y = b1 + 1 := ⟨_, rfl⟩
    replace hF := bnd_e hF e24
    refine lv_iinc (v := v23) (lv' := [(1, .int v23), (0, .ref (q 53))]) X.x X.b (dk DX12_notes_0 54 rfl) hl (k := 1) rfl (by rw [e24]; rfl) (by decide) rfl (fun ls hl => ?_)
    replace hl : lv_has ls 3 [(0, .ref (q 53)), (1, .int v23)] := lv_sub hl [1, 0] rfl
    refine lv_goto (tgt := 11) X.x X.b (dk DX12_notes_0 55 rfl) (by decide) ?_
    exact (lp_l hF hx) _ _ _ hH (lv_sub hl [0, 1] rfl) K0
set_option maxHeartbeats 4000000 in
set_option maxRecDepth 100000 in
theorem c_X12_notes {l : Launch} {G : mG} {h : mM} {q : Nat → Nat} (hq : oinj LX12 q) {st : OS} {x : OS} (hF : f_X12_notes st = some x) : cQ l G yX12_notes cX12_notes 3 none rm_X12_notes [.ref (q 53)] (oset LX12 G q st h) (mQv G (fun h1 => h1 = oset LX12 G q x h)) := by
  refine mp_of (by decide +kernel) (Nat.le_of_ble_eq_true rfl) ?_
  intro p e s m below meth c X hr hlk hH hname ls hl
  dsimp only [f_X12_notes] at hF
  replace hl : lv_has ls 3 [(0, .ref (q 53))] := hl
  refine lv_aload_n X.x X.b (dk DX12_notes_0 0 rfl) rfl (lv_at hl 0 rfl) ?_
  refine og_getI OX12 X hq hH 44 (by decide) rfl kF_X12_253 (dk DX12_notes_0 1 rfl) ?_
  refine lv_bipush (v := 20) X.x X.b (dk DX12_notes_0 2 rfl) (by decide) ?_
  refine lv_icmp_ne (tgt := 99) X.x X.b (dk DX12_notes_0 3 rfl) (by decide) (fun c1 => ?_) (fun c1 => ?_)
  · replace hF := if_f hF c1
    refine lv_aload_n X.x X.b (dk DX12_notes_1 2 rfl) rfl (lv_at hl 0 rfl) ?_
    refine lv_aload_n X.x X.b (dk DX12_notes_1 3 rfl) rfl (lv_at hl 0 rfl) ?_
    refine og_getR (t := 1) OX12 X hq hH 38 (by decide) rfl kF_X12_66 (dk DX12_notes_1 4 rfl) ?_
    refine lv_aload_n X.x X.b (dk DX12_notes_1 5 rfl) rfl (lv_at hl 0 rfl) ?_
    refine og_getR (t := 0) OX12 X hq hH 40 (by decide) rfl kF_X12_72 (dk DX12_notes_1 6 rfl) ?_
    refine lv_aload_n X.x X.b (dk DX12_notes_1 7 rfl) rfl (lv_at hl 0 rfl) ?_
    refine og_getR (t := 0) OX12 X hq hH 41 (by decide) rfl kF_X12_75 (dk DX12_notes_1 8 rfl) ?_
    refine lv_aload_n X.x X.b (dk DX12_notes_1 9 rfl) rfl (lv_at hl 0 rfl) ?_
    refine og_getI OX12 X hq hH 44 (by decide) rfl kF_X12_253 (dk DX12_notes_1 10 rfl) ?_
    obtain ⟨x2, e3, hF⟩ := bd hF
    refine mr_cv0 hH ⟨rfl, rfl⟩ (mr_runV (As := [.ref (q 38), .ref (q 40), .ref (q 41), .int (st.1 44)]) (rest := []) X hH (c_X12_keeps hq (by decide) rfl (by decide) rfl (by decide) rfl e3) ((oset_at hq (Nat.le_refl _) ohas_N).trans (congrArg some ocell_N)) OX12.1 kM_X12_410 kI_X12_keeps kS_X12_keeps kN_X12 kC_X12_keeps hd_X12_keeps ⟨Nat.le_of_ble_eq_true rfl, Nat.le_of_ble_eq_true rfl⟩ rfl hl.1 (Nat.le_of_ble_eq_true rfl) (dk DX12_notes_1 11 rfl) ⟨Nat.zero_le _, Nat.zero_le _⟩) (fun h1 H locs hp hH => ?_)
    rw [hp] at hH; clear hp
    refine lv_aload_n X.x X.b (dk DX12_notes_1 12 rfl) rfl (lv_at hl 0 rfl) ?_
    refine lv_dup X.x X.b (dk DX12_notes_1 13 rfl) rfl ?_
    refine og_getI OX12 X hq hH 44 (by decide) rfl kF_X12_253 (dk DX12_notes_1 14 rfl) ?_
    refine lv_iconst (v := 1) X.x X.b (dk DX12_notes_1 15 rfl) (by decide) ?_
    refine lv_iadd X.x X.b (dk DX12_notes_1 16 rfl) ?_
    refine og_putI OX12 X hq hH 44 (by decide) rfl kF_X12_253 rfl rfl rfl (dk DX12_notes_1 17 rfl) (fun H locs hH => ?_)
    obtain ⟨t4, e5⟩ : ∃ y, y = oI x2 44 ((x2.1 44) + 1) := ⟨_, rfl⟩
    rw [← e5] at hH
    replace hF := bnd_e hF e5
    cases sm hF
    exact mr_vret X hr hlk hH rfl (dk DX12_notes_1 18 rfl)
  · replace hF := if_t hF c1
    refine lv_iconst (v := 1) X.x X.b (dk DX12_notes_0 4 rfl) (by decide) ?_
    refine lv_istore_n (lv' := [(1, .int 1), (0, .ref (q 53))]) X.x X.b (dk DX12_notes_0 5 rfl) rfl hl (by decide) rfl (fun ls hl => ?_)
    replace hl : lv_has ls 3 [(0, .ref (q 53)), (1, .int 1)] := lv_sub hl [1, 0] rfl
    obtain ⟨x25, e26, hF⟩ := bd hF
    replace hl : lv_has ls 3 [(0, .ref (q 53)), (1, .int 1)] := lv_sub hl [0, 1] rfl
    refine w_X12_notes_11 hq X _ _ e26 _ _ _ hH hl (fun H locs ls hH hl => ?_)
    refine lv_aload_n X.x X.b (dk DX12_notes_0 56 rfl) rfl (lv_at hl 0 rfl) ?_
    refine lv_dup X.x X.b (dk DX12_notes_0 57 rfl) rfl ?_
    refine og_getI OX12 X hq hH 44 (by decide) rfl kF_X12_253 (dk DX12_notes_0 58 rfl) ?_
    refine lv_iconst (v := 1) X.x X.b (dk DX12_notes_0 59 rfl) (by decide) ?_
    refine lv_isub X.x X.b (dk DX12_notes_1 0 rfl) ?_
    refine og_putI OX12 X hq hH 44 (by decide) rfl kF_X12_253 rfl rfl rfl (dk DX12_notes_1 1 rfl) (fun H locs hH => ?_)
    obtain ⟨t28, e29⟩ : ∃ y, y = oI x25 44 ((x25.1 44) - 1) := ⟨_, rfl⟩
    rw [← e29] at hH
    replace hF := bnd_e hF e29
    refine lv_aload_n X.x X.b (dk DX12_notes_1 2 rfl) rfl (lv_at hl 0 rfl) ?_
    refine lv_aload_n X.x X.b (dk DX12_notes_1 3 rfl) rfl (lv_at hl 0 rfl) ?_
    refine og_getR (t := 1) OX12 X hq hH 38 (by decide) rfl kF_X12_66 (dk DX12_notes_1 4 rfl) ?_
    refine lv_aload_n X.x X.b (dk DX12_notes_1 5 rfl) rfl (lv_at hl 0 rfl) ?_
    refine og_getR (t := 0) OX12 X hq hH 40 (by decide) rfl kF_X12_72 (dk DX12_notes_1 6 rfl) ?_
    refine lv_aload_n X.x X.b (dk DX12_notes_1 7 rfl) rfl (lv_at hl 0 rfl) ?_
    refine og_getR (t := 0) OX12 X hq hH 41 (by decide) rfl kF_X12_75 (dk DX12_notes_1 8 rfl) ?_
    refine lv_aload_n X.x X.b (dk DX12_notes_1 9 rfl) rfl (lv_at hl 0 rfl) ?_
    refine og_getI OX12 X hq hH 44 (by decide) rfl kF_X12_253 (dk DX12_notes_1 10 rfl) ?_
    obtain ⟨x30, e31, hF⟩ := bd hF
    refine mr_cv0 hH ⟨rfl, rfl⟩ (mr_runV (As := [.ref (q 38), .ref (q 40), .ref (q 41), .int (t28.1 44)]) (rest := []) X hH (c_X12_keeps hq (by decide) rfl (by decide) rfl (by decide) rfl e31) ((oset_at hq (Nat.le_refl _) ohas_N).trans (congrArg some ocell_N)) OX12.1 kM_X12_410 kI_X12_keeps kS_X12_keeps kN_X12 kC_X12_keeps hd_X12_keeps ⟨Nat.le_of_ble_eq_true rfl, Nat.le_of_ble_eq_true rfl⟩ rfl hl.1 (Nat.le_of_ble_eq_true rfl) (dk DX12_notes_1 11 rfl) ⟨Nat.zero_le _, Nat.zero_le _⟩) (fun h1 H locs hp hH => ?_)
    rw [hp] at hH; clear hp
    refine lv_aload_n X.x X.b (dk DX12_notes_1 12 rfl) rfl (lv_at hl 0 rfl) ?_
    refine lv_dup X.x X.b (dk DX12_notes_1 13 rfl) rfl ?_
    refine og_getI OX12 X hq hH 44 (by decide) rfl kF_X12_253 (dk DX12_notes_1 14 rfl) ?_
    refine lv_iconst (v := 1) X.x X.b (dk DX12_notes_1 15 rfl) (by decide) ?_
    refine lv_iadd X.x X.b (dk DX12_notes_1 16 rfl) ?_
    refine og_putI OX12 X hq hH 44 (by decide) rfl kF_X12_253 rfl rfl rfl (dk DX12_notes_1 17 rfl) (fun H locs hH => ?_)
    obtain ⟨t32, e33⟩ : ∃ y, y = oI x30 44 ((x30.1 44) + 1) := ⟨_, rfl⟩
    rw [← e33] at hH
    replace hF := bnd_e hF e33
    cases sm hF
    exact mr_vret X hr hlk hH rfl (dk DX12_notes_1 18 rfl)
-- X12_acts
abbrev rm_X12_acts : Room := { frames := 2, cells := 0, slots := 0, locals := 47 }
theorem hd_X12_acts : mHd yX12_acts 0 := ⟨by decide +kernel, by decide +kernel, by decide +kernel⟩
theorem DX12_acts_0 : ∀ t ∈ ([(0, .aload_n 0, 1), (1, .invokevirtual 414, 3), (4, .aload_n 0, 1), (5, .iconst 0, 1), (6, .putfield 256, 3), (9, .return_, 1)] : List (Nat × Instr × Nat)), decode cX12_acts t.1 = .ok (t.2.1, t.2.2) := by decide +kernel
noncomputable def f_X12_acts (st : OS) : Option (OS) := (f_X12_notes st).bind (fun x1 => bnd (oI x1 45 0) (fun t3 => some t3))
set_option maxHeartbeats 4000000 in
set_option maxRecDepth 100000 in
theorem c_X12_acts {l : Launch} {G : mG} {h : mM} {q : Nat → Nat} (hq : oinj LX12 q) {st : OS} {x : OS} (hF : f_X12_acts st = some x) : cQ l G yX12_acts cX12_acts 1 none rm_X12_acts [.ref (q 53)] (oset LX12 G q st h) (mQv G (fun h1 => h1 = oset LX12 G q x h)) := by
  refine mp_of (by decide +kernel) (Nat.le_of_ble_eq_true rfl) ?_
  intro p e s m below meth c X hr hlk hH hname ls hl
  dsimp only [f_X12_acts] at hF
  replace hl : lv_has ls 1 [(0, .ref (q 53))] := hl
  refine lv_aload_n X.x X.b (dk DX12_acts_0 0 rfl) rfl (lv_at hl 0 rfl) ?_
  obtain ⟨x1, e2, hF⟩ := bd hF
  refine mr_cv0 hH ⟨rfl, rfl⟩ (mr_runV (As := []) (rest := []) X hH (c_X12_notes hq e2) ((oset_at hq (Nat.le_refl _) ohas_N).trans (congrArg some ocell_N)) OX12.1 kM_X12_414 kI_X12_notes kS_X12_notes kN_X12 kC_X12_notes hd_X12_notes ⟨Nat.le_of_ble_eq_true rfl, Nat.le_of_ble_eq_true rfl⟩ rfl hl.1 (Nat.le_of_ble_eq_true rfl) (dk DX12_acts_0 1 rfl) ⟨Nat.zero_le _, Nat.zero_le _⟩) (fun h1 H locs hp hH => ?_)
  rw [hp] at hH; clear hp
  refine lv_aload_n X.x X.b (dk DX12_acts_0 2 rfl) rfl (lv_at hl 0 rfl) ?_
  refine lv_iconst (v := 0) X.x X.b (dk DX12_acts_0 3 rfl) (by decide) ?_
  refine og_putI OX12 X hq hH 45 (by decide) rfl kF_X12_256 rfl rfl rfl (dk DX12_acts_0 4 rfl) (fun H locs hH => ?_)
  obtain ⟨t3, e4⟩ : ∃ y, y = oI x1 45 0 := ⟨_, rfl⟩
  rw [← e4] at hH
  replace hF := bnd_e hF e4
  cases sm hF
  exact mr_vret X hr hlk hH rfl (dk DX12_acts_0 5 rfl)
-- X12_adds
abbrev rm_X12_adds : Room := { frames := 3, cells := 0, slots := 0, locals := 67 }
theorem hd_X12_adds : mHd yX12_adds 1 := ⟨by decide +kernel, by decide +kernel, by decide +kernel⟩
theorem DX12_adds_0 : ∀ t ∈ ([(0, .aload_n 0, 1), (1, .getfield 250, 3), (4, .bipush 64, 2), (6, .if_icmp .ne 5, 3), (9, .iconst (-1), 1), (10, .ireturn, 1), (11, .aload_n 0, 1), (12, .invokevirtual 417, 3), (15, .aload_n 0, 1), (16, .getfield 7, 3), (19, .aload_n 0, 1), (20, .getfield 250, 3), (23, .lload_n 1, 1), (24, .lastore, 1), (25, .aload_n 0, 1), (26, .dup, 1), (27, .getfield 250, 3), (30, .iconst 1, 1), (31, .iadd, 1), (32, .putfield 250, 3), (35, .aload_n 0, 1), (36, .getfield 250, 3), (39, .iconst 1, 1), (40, .isub, 1), (41, .ireturn, 1)] : List (Nat × Instr × Nat)), decode cX12_adds t.1 = .ok (t.2.1, t.2.2) := by decide +kernel
noncomputable def f_X12_adds (st : OS) (a0 : Int64) : Option (Int32 × OS) := (if (st.1 1) = 64 then some (((-1), st)) else (f_X12_acts st).bind (fun x2 => if inb (x2.1 1) 64 = true then bnd (oB x2 3 (vp_updL (x2.2.2.2 3) (x2.1 1 : Int32).toNatClampNeg a0)) (fun t5 => bnd (oI t5 1 ((t5.1 1) + 1)) (fun t7 => some (((t7.1 1) - 1, t7)))) else none))
set_option maxHeartbeats 4000000 in
set_option maxRecDepth 100000 in
theorem c_X12_adds {l : Launch} {G : mG} {h : mM} {q : Nat → Nat} (hq : oinj LX12 q) {st : OS} {a0 : Int64} {x : Int32 × OS} (hF : f_X12_adds st a0 = some x) : cQ l G yX12_adds cX12_adds 3 (some FieldType.int) rm_X12_adds [.ref (q 53), .long a0] (oset LX12 G q st h) (mQi G (fun r h1 => r = x.1 ∧ h1 = oset LX12 G q x.2 h)) := by
  refine mp_of (by decide +kernel) (Nat.le_of_ble_eq_true rfl) ?_
  intro p e s m below meth c X hr hlk hH hname ls hl
  dsimp only [f_X12_adds] at hF
  replace hl : lv_has ls 3 [(0, .ref (q 53)), (1, .long a0)] := hl
  refine lv_aload_n X.x X.b (dk DX12_adds_0 0 rfl) rfl (lv_at hl 0 rfl) ?_
  refine og_getI OX12 X hq hH 1 (by decide) rfl kF_X12_250 (dk DX12_adds_0 1 rfl) ?_
  refine lv_bipush (v := 64) X.x X.b (dk DX12_adds_0 2 rfl) (by decide) ?_
  refine lv_icmp_ne (tgt := 11) X.x X.b (dk DX12_adds_0 3 rfl) (by decide) (fun c1 => ?_) (fun c1 => ?_)
  · replace hF := if_f hF c1
    refine lv_aload_n X.x X.b (dk DX12_adds_0 6 rfl) rfl (lv_at hl 0 rfl) ?_
    obtain ⟨x2, e3, hF⟩ := bd hF
    refine mr_cv0 hH ⟨rfl, rfl⟩ (mr_runV (As := []) (rest := []) X hH (c_X12_acts hq e3) ((oset_at hq (Nat.le_refl _) ohas_N).trans (congrArg some ocell_N)) OX12.1 kM_X12_417 kI_X12_acts kS_X12_acts kN_X12 kC_X12_acts hd_X12_acts ⟨Nat.le_of_ble_eq_true rfl, Nat.le_of_ble_eq_true rfl⟩ rfl hl.1 (Nat.le_of_ble_eq_true rfl) (dk DX12_adds_0 7 rfl) ⟨Nat.zero_le _, Nat.zero_le _⟩) (fun h1 H locs hp hH => ?_)
    rw [hp] at hH; clear hp
    refine lv_aload_n X.x X.b (dk DX12_adds_0 8 rfl) rfl (lv_at hl 0 rfl) ?_
    refine og_getR (t := 1) OX12 X hq hH 3 (by decide) rfl kF_X12_7 (dk DX12_adds_0 9 rfl) ?_
    refine lv_aload_n X.x X.b (dk DX12_adds_0 10 rfl) rfl (lv_at hl 0 rfl) ?_
    refine og_getI OX12 X hq hH 1 (by decide) rfl kF_X12_250 (dk DX12_adds_0 11 rfl) ?_
    refine lv_lload_n X.x X.b (dk DX12_adds_0 12 rfl) rfl (lv_at hl 1 rfl) ?_
    obtain ⟨c4, hF⟩ := gd hF
    refine og_last X hq hH 3 (by decide) rfl (inb_in c4) (dk DX12_adds_0 13 rfl) (fun H locs hH => ?_)
    obtain ⟨t5, e6⟩ : ∃ y, y = oB x2 3 (vp_updL (x2.2.2.2 3) (x2.1 1 : Int32).toNatClampNeg a0) := ⟨_, rfl⟩
    rw [← e6] at hH
    replace hF := bnd_e hF e6
    refine lv_aload_n X.x X.b (dk DX12_adds_0 14 rfl) rfl (lv_at hl 0 rfl) ?_
    refine lv_dup X.x X.b (dk DX12_adds_0 15 rfl) rfl ?_
    refine og_getI OX12 X hq hH 1 (by decide) rfl kF_X12_250 (dk DX12_adds_0 16 rfl) ?_
    refine lv_iconst (v := 1) X.x X.b (dk DX12_adds_0 17 rfl) (by decide) ?_
    refine lv_iadd X.x X.b (dk DX12_adds_0 18 rfl) ?_
    refine og_putI OX12 X hq hH 1 (by decide) rfl kF_X12_250 rfl rfl rfl (dk DX12_adds_0 19 rfl) (fun H locs hH => ?_)
    obtain ⟨t7, e8⟩ : ∃ y, y = oI t5 1 ((t5.1 1) + 1) := ⟨_, rfl⟩
    rw [← e8] at hH
    replace hF := bnd_e hF e8
    refine lv_aload_n X.x X.b (dk DX12_adds_0 20 rfl) rfl (lv_at hl 0 rfl) ?_
    refine og_getI OX12 X hq hH 1 (by decide) rfl kF_X12_250 (dk DX12_adds_0 21 rfl) ?_
    refine lv_iconst (v := 1) X.x X.b (dk DX12_adds_0 22 rfl) (by decide) ?_
    refine lv_isub X.x X.b (dk DX12_adds_0 23 rfl) ?_
    cases sm hF
    exact mr_iret X hr hlk hH ⟨rfl, rfl⟩ (dk DX12_adds_0 24 rfl)
  · replace hF := if_t hF c1
    refine lv_iconst (v := (-1)) X.x X.b (dk DX12_adds_0 4 rfl) (by decide) ?_
    cases sm hF
    exact mr_iret X hr hlk hH ⟨rfl, rfl⟩ (dk DX12_adds_0 5 rfl)
-- X12_add
abbrev rm_X12_add : Room := { frames := 4, cells := 0, slots := 0, locals := 89 }
theorem hd_X12_add : mHd yX12_add 1 := ⟨by decide +kernel, by decide +kernel, by decide +kernel⟩
theorem DX12_add_0 : ∀ t ∈ ([(0, .aload_n 0, 1), (1, .aload_n 0, 1), (2, .lload_n 1, 1), (3, .invokevirtual 275, 3), (6, .ifCond .eq 15, 3), (9, .lload_n 1, 1), (10, .invokestatic 283, 3), (13, .iconst 2, 1), (14, .if_icmp .lt 7, 3), (17, .iconst 0, 1), (18, .goto 4, 3), (21, .iconst 1, 1), (22, .putfield 106, 3), (25, .aload_n 0, 1), (26, .getfield 106, 3), (29, .ifCond .le 7, 3), (32, .iconst 0, 1), (33, .goto 8, 3), (36, .aload_n 0, 1), (37, .lload_n 1, 1), (38, .invokevirtual 420, 3), (41, .ireturn, 1)] : List (Nat × Instr × Nat)), decode cX12_add t.1 = .ok (t.2.1, t.2.2) := by decide +kernel
noncomputable def f_X12_add (st : OS) (a0 : Int64) : Option (Int32 × OS) := (f_X12_isSet st a0).bind (fun x1 => (if x1 = 0 then bnd (oI st 2 1) (fun t4 => (if (t4.1 2) ≤ 0 then (f_X12_adds t4 a0).bind (fun x7 => match x7 with | (v10, t9) => some ((v10, t9))) else some ((0, t4)))) else (f_X12_ones a0).bind (fun x11 => (if x11 < 2 then bnd (oI st 2 1) (fun t14 => (if (t14.1 2) ≤ 0 then (f_X12_adds t14 a0).bind (fun x17 => match x17 with | (v20, t19) => some ((v20, t19))) else some ((0, t14)))) else bnd (oI st 2 0) (fun t21 => (if (t21.1 2) ≤ 0 then (f_X12_adds t21 a0).bind (fun x24 => match x24 with | (v27, t26) => some ((v27, t26))) else some ((0, t21))))))))
set_option maxHeartbeats 4000000 in
set_option maxRecDepth 100000 in
theorem c_X12_add {l : Launch} {G : mG} {h : mM} {q : Nat → Nat} (hq : oinj LX12 q) {st : OS} {a0 : Int64} {x : Int32 × OS} (hF : f_X12_add st a0 = some x) : cQ l G yX12_add cX12_add 3 (some FieldType.int) rm_X12_add [.ref (q 53), .long a0] (oset LX12 G q st h) (mQi G (fun r h1 => r = x.1 ∧ h1 = oset LX12 G q x.2 h)) := by
  refine mp_of (by decide +kernel) (Nat.le_of_ble_eq_true rfl) ?_
  intro p e s m below meth c X hr hlk hH hname ls hl
  dsimp only [f_X12_add] at hF
  replace hl : lv_has ls 3 [(0, .ref (q 53)), (1, .long a0)] := hl
  refine lv_aload_n X.x X.b (dk DX12_add_0 0 rfl) rfl (lv_at hl 0 rfl) ?_
  refine lv_aload_n X.x X.b (dk DX12_add_0 1 rfl) rfl (lv_at hl 0 rfl) ?_
  refine lv_lload_n X.x X.b (dk DX12_add_0 2 rfl) rfl (lv_at hl 1 rfl) ?_
  obtain ⟨x1, e2, hF⟩ := bd hF
  refine mr_ci0 hH ⟨rfl, rfl⟩ (mr_runV (As := [.long a0]) (rest := [.ref (q 53)]) X hH (c_X12_isSet hq e2) ((oset_at hq (Nat.le_refl _) ohas_N).trans (congrArg some ocell_N)) OX12.1 kM_X12_275 kI_X12_isSet kS_X12_isSet kN_X12 kC_X12_isSet hd_X12_isSet ⟨Nat.le_of_ble_eq_true rfl, Nat.le_of_ble_eq_true rfl⟩ rfl hl.1 (Nat.le_of_ble_eq_true rfl) (dk DX12_add_0 3 rfl) ⟨Nat.zero_le _, Nat.zero_le _⟩) (fun r h1 H locs hp hH => ?_)
  obtain ⟨hr1, hr2⟩ := hp; rw [hr1]; rw [hr2] at hH; clear hr1 hr2
  refine lv_if_eq (tgt := 21) X.x X.b (dk DX12_add_0 4 rfl) (by decide) (fun c3 => ?_) (fun c3 => ?_)
  · replace hF := if_t hF c3
    refine lv_iconst (v := 1) X.x X.b (dk DX12_add_0 11 rfl) (by decide) ?_
    refine og_putI OX12 X hq hH 2 (by decide) rfl kF_X12_106 rfl rfl rfl (dk DX12_add_0 12 rfl) (fun H locs hH => ?_)
    obtain ⟨t4, e5⟩ : ∃ y, y = oI st 2 1 := ⟨_, rfl⟩
    rw [← e5] at hH
    replace hF := bnd_e hF e5
    refine lv_aload_n X.x X.b (dk DX12_add_0 13 rfl) rfl (lv_at hl 0 rfl) ?_
    refine og_getI OX12 X hq hH 2 (by decide) rfl kF_X12_106 (dk DX12_add_0 14 rfl) ?_
    refine lv_if_le (tgt := 36) X.x X.b (dk DX12_add_0 15 rfl) (by decide) (fun c6 => ?_) (fun c6 => ?_)
    · replace hF := if_t hF c6
      refine lv_aload_n X.x X.b (dk DX12_add_0 18 rfl) rfl (lv_at hl 0 rfl) ?_
      refine lv_lload_n X.x X.b (dk DX12_add_0 19 rfl) rfl (lv_at hl 1 rfl) ?_
      obtain ⟨x7, e8, hF⟩ := bd hF
      refine mr_ci0 hH ⟨rfl, rfl⟩ (mr_runV (As := [.long a0]) (rest := []) X hH (c_X12_adds hq e8) ((oset_at hq (Nat.le_refl _) ohas_N).trans (congrArg some ocell_N)) OX12.1 kM_X12_420 kI_X12_adds kS_X12_adds kN_X12 kC_X12_adds hd_X12_adds ⟨Nat.le_of_ble_eq_true rfl, Nat.le_of_ble_eq_true rfl⟩ rfl hl.1 (Nat.le_of_ble_eq_true rfl) (dk DX12_add_0 20 rfl) ⟨Nat.zero_le _, Nat.zero_le _⟩) (fun r h1 H locs hp hH => ?_)
      obtain ⟨hr1, hr2⟩ := hp; rw [hr1]; rw [hr2] at hH; clear hr1 hr2
      obtain ⟨v10, t9⟩ := x7
      try dsimp only at hF hH ⊢
      cases sm hF
      exact mr_iret X hr hlk hH ⟨rfl, rfl⟩ (dk DX12_add_0 21 rfl)
    · replace hF := if_f hF c6
      refine lv_iconst (v := 0) X.x X.b (dk DX12_add_0 16 rfl) (by decide) ?_
      refine lv_goto (tgt := 41) X.x X.b (dk DX12_add_0 17 rfl) (by decide) ?_
      cases sm hF
      exact mr_iret X hr hlk hH ⟨rfl, rfl⟩ (dk DX12_add_0 21 rfl)
  · replace hF := if_f hF c3
    refine lv_lload_n X.x X.b (dk DX12_add_0 5 rfl) rfl (lv_at hl 1 rfl) ?_
    obtain ⟨x11, e12, hF⟩ := bd hF
    refine mr_ci0 hH ⟨rfl, rfl⟩ (mr_runS (As := [.long a0]) (rest := [.ref (q 53)]) X hH (c_X12_ones e12) kM_X12_283 kT_X12_ones kN_X12 kC_X12_ones hd_X12_ones ⟨Nat.le_of_ble_eq_true rfl, Nat.le_of_ble_eq_true rfl⟩ rfl hl.1 (Nat.le_of_ble_eq_true rfl) (dk DX12_add_0 6 rfl) ⟨Nat.zero_le _, Nat.zero_le _⟩) (fun r h1 H locs hp hH => ?_)
    obtain ⟨hr1, hr2⟩ := hp; rw [hr1]; rw [hr2] at hH; clear hr1 hr2
    refine lv_iconst (v := 2) X.x X.b (dk DX12_add_0 7 rfl) (by decide) ?_
    refine lv_icmp_lt (tgt := 21) X.x X.b (dk DX12_add_0 8 rfl) (by decide) (fun c13 => ?_) (fun c13 => ?_)
    · replace hF := if_t hF c13
      refine lv_iconst (v := 1) X.x X.b (dk DX12_add_0 11 rfl) (by decide) ?_
      refine og_putI OX12 X hq hH 2 (by decide) rfl kF_X12_106 rfl rfl rfl (dk DX12_add_0 12 rfl) (fun H locs hH => ?_)
      obtain ⟨t14, e15⟩ : ∃ y, y = oI st 2 1 := ⟨_, rfl⟩
      rw [← e15] at hH
      replace hF := bnd_e hF e15
      refine lv_aload_n X.x X.b (dk DX12_add_0 13 rfl) rfl (lv_at hl 0 rfl) ?_
      refine og_getI OX12 X hq hH 2 (by decide) rfl kF_X12_106 (dk DX12_add_0 14 rfl) ?_
      refine lv_if_le (tgt := 36) X.x X.b (dk DX12_add_0 15 rfl) (by decide) (fun c16 => ?_) (fun c16 => ?_)
      · replace hF := if_t hF c16
        refine lv_aload_n X.x X.b (dk DX12_add_0 18 rfl) rfl (lv_at hl 0 rfl) ?_
        refine lv_lload_n X.x X.b (dk DX12_add_0 19 rfl) rfl (lv_at hl 1 rfl) ?_
        obtain ⟨x17, e18, hF⟩ := bd hF
        refine mr_ci0 hH ⟨rfl, rfl⟩ (mr_runV (As := [.long a0]) (rest := []) X hH (c_X12_adds hq e18) ((oset_at hq (Nat.le_refl _) ohas_N).trans (congrArg some ocell_N)) OX12.1 kM_X12_420 kI_X12_adds kS_X12_adds kN_X12 kC_X12_adds hd_X12_adds ⟨Nat.le_of_ble_eq_true rfl, Nat.le_of_ble_eq_true rfl⟩ rfl hl.1 (Nat.le_of_ble_eq_true rfl) (dk DX12_add_0 20 rfl) ⟨Nat.zero_le _, Nat.zero_le _⟩) (fun r h1 H locs hp hH => ?_)
        obtain ⟨hr1, hr2⟩ := hp; rw [hr1]; rw [hr2] at hH; clear hr1 hr2
        obtain ⟨v20, t19⟩ := x17
        try dsimp only at hF hH ⊢
        cases sm hF
        exact mr_iret X hr hlk hH ⟨rfl, rfl⟩ (dk DX12_add_0 21 rfl)
      · replace hF := if_f hF c16
        refine lv_iconst (v := 0) X.x X.b (dk DX12_add_0 16 rfl) (by decide) ?_
        refine lv_goto (tgt := 41) X.x X.b (dk DX12_add_0 17 rfl) (by decide) ?_
        cases sm hF
        exact mr_iret X hr hlk hH ⟨rfl, rfl⟩ (dk DX12_add_0 21 rfl)
    · replace hF := if_f hF c13
      refine lv_iconst (v := 0) X.x X.b (dk DX12_add_0 9 rfl) (by decide) ?_
      refine lv_goto (tgt := 22) X.x X.b (dk DX12_add_0 10 rfl) (by decide) ?_
      refine og_putI OX12 X hq hH 2 (by decide) rfl kF_X12_106 rfl rfl rfl (dk DX12_add_0 12 rfl) (fun H locs hH => ?_)
      obtain ⟨t21, e22⟩ : ∃ y, y = oI st 2 0 := ⟨_, rfl⟩
      rw [← e22] at hH
      replace hF := bnd_e hF e22
      refine lv_aload_n X.x X.b (dk DX12_add_0 13 rfl) rfl (lv_at hl 0 rfl) ?_
      refine og_getI OX12 X hq hH 2 (by decide) rfl kF_X12_106 (dk DX12_add_0 14 rfl) ?_
      refine lv_if_le (tgt := 36) X.x X.b (dk DX12_add_0 15 rfl) (by decide) (fun c23 => ?_) (fun c23 => ?_)
      · replace hF := if_t hF c23
        refine lv_aload_n X.x X.b (dk DX12_add_0 18 rfl) rfl (lv_at hl 0 rfl) ?_
        refine lv_lload_n X.x X.b (dk DX12_add_0 19 rfl) rfl (lv_at hl 1 rfl) ?_
        obtain ⟨x24, e25, hF⟩ := bd hF
        refine mr_ci0 hH ⟨rfl, rfl⟩ (mr_runV (As := [.long a0]) (rest := []) X hH (c_X12_adds hq e25) ((oset_at hq (Nat.le_refl _) ohas_N).trans (congrArg some ocell_N)) OX12.1 kM_X12_420 kI_X12_adds kS_X12_adds kN_X12 kC_X12_adds hd_X12_adds ⟨Nat.le_of_ble_eq_true rfl, Nat.le_of_ble_eq_true rfl⟩ rfl hl.1 (Nat.le_of_ble_eq_true rfl) (dk DX12_add_0 20 rfl) ⟨Nat.zero_le _, Nat.zero_le _⟩) (fun r h1 H locs hp hH => ?_)
        obtain ⟨hr1, hr2⟩ := hp; rw [hr1]; rw [hr2] at hH; clear hr1 hr2
        obtain ⟨v27, t26⟩ := x24
        try dsimp only at hF hH ⊢
        cases sm hF
        exact mr_iret X hr hlk hH ⟨rfl, rfl⟩ (dk DX12_add_0 21 rfl)
      · replace hF := if_f hF c23
        refine lv_iconst (v := 0) X.x X.b (dk DX12_add_0 16 rfl) (by decide) ?_
        refine lv_goto (tgt := 41) X.x X.b (dk DX12_add_0 17 rfl) (by decide) ?_
        cases sm hF
        exact mr_iret X hr hlk hH ⟨rfl, rfl⟩ (dk DX12_add_0 21 rfl)
-- X12_drops
abbrev rm_X12_drops : Room := { frames := 3, cells := 0, slots := 0, locals := 67 }
theorem hd_X12_drops : mHd yX12_drops 1 := ⟨by decide +kernel, by decide +kernel, by decide +kernel⟩
theorem DX12_drops_0 : ∀ t ∈ ([(0, .aload_n 0, 1), (1, .invokevirtual 417, 3), (4, .aload_n 0, 1), (5, .getfield 7, 3), (8, .iload_n 1, 1), (9, .laload, 1), (10, .lstore_n 2, 1), (11, .aload_n 0, 1), (12, .dup, 1), (13, .getfield 250, 3), (16, .iconst 1, 1), (17, .isub, 1), (18, .putfield 250, 3), (21, .iload_n 1, 1), (22, .istore 4, 2), (24, .iload 4, 2), (26, .aload_n 0, 1), (27, .getfield 250, 3), (30, .if_icmp .ge 25, 3), (33, .aload_n 0, 1), (34, .getfield 7, 3), (37, .iload 4, 2), (39, .aload_n 0, 1), (40, .getfield 7, 3), (43, .iload 4, 2), (45, .iconst 1, 1), (46, .iadd, 1), (47, .laload, 1), (48, .lastore, 1), (49, .iinc 4 1, 3), (52, .goto (-28), 3), (55, .lload_n 2, 1), (56, .lreturn, 1)] : List (Nat × Instr × Nat)), decode cX12_drops t.1 = .ok (t.2.1, t.2.2) := by decide +kernel
noncomputable def f_X12_drops_24 (b2 : Int64) : (OS × Int32) → Option ((OS × Int32) ⊕ (OS)) := fun z => match z with | (s0, b4) => (if (s0.1 1) ≤ b4 then some (.inr s0) else if inb (b4 + 1) 64 = true then if inb b4 64 = true then bnd (oB s0 3 (vp_updL (s0.2.2.2 3) (b4 : Int32).toNatClampNeg (s0.2.2.2 3 (b4 + 1 : Int32).toNatClampNeg))) (fun t11 => bnd (b4 + 1 : Int32) (fun v13 => some (.inl ((t11, v13))))) else none else none)
noncomputable def f_X12_drops (st : OS) (a0 : Int32) : Option (Int64 × OS) := (f_X12_acts st).bind (fun x1 => if inb a0 64 = true then bnd (x1.2.2.2 3 (a0 : Int32).toNatClampNeg : Int64) (fun v4 => bnd (oI x1 1 ((x1.1 1) - 1)) (fun t6 => (lpv (f_X12_drops_24 v4) ((t6, a0))).bind (fun x15 => some ((v4, x15))))) else none)
set_option maxHeartbeats 4000000 in
set_option maxRecDepth 100000 in
theorem w_X12_drops_24 {p : Program} {l : Launch} {e : Env} {s : State} {m : MethodId} {args : Array Value} {below : List Frame} {meth : Method} {c : Code} {Q : State → Prop} {G : mG} {h : mM} {q : Nat → Nat} (hq : oinj LX12 q) (X : mX G p m c cX12_drops 5 s args RX12) (b2 : Int64) : ∀ (z : OS × Int32) (r : OS), lpv (f_X12_drops_24 b2) z = some r → ∀ (H : Heap) (locs : List Loc) (ls : Array Slot), mH G (oset LX12 G q z.1 h) s.heap H locs → lv_has ls 5 [(0, .ref (q 53)), (2, .long b2), (4, .int z.2)] → (∀ (H : Heap) (locs : List Loc) (ls : Array Slot), mH G (oset LX12 G q r h) s.heap H locs → lv_has ls 5 [(2, .long b2)] → W p l e rm_X12_drops s m args below meth c H locs 0 0 Q (F0 m 55 ls [])) → W p l e rm_X12_drops s m args below meth c H locs 0 0 Q (F0 m 24 ls []) := by
  refine lpv_rec ?_
  intro z r x hF hx H locs ls hH hl K0
  obtain ⟨s0, b4⟩ := z
  dsimp only [f_X12_drops_24] at hF
  try dsimp only at hH hl
  refine lv_iload X.x X.b (dk DX12_drops_0 15 rfl) (lv_at hl 2 rfl) ?_
  refine lv_aload_n X.x X.b (dk DX12_drops_0 16 rfl) rfl (lv_at hl 0 rfl) ?_
  refine og_getI OX12 X hq hH 1 (by decide) rfl kF_X12_250 (dk DX12_drops_0 17 rfl) ?_
  refine lv_icmp_ge (tgt := 55) X.x X.b (dk DX12_drops_0 18 rfl) (by decide) (fun c8 => ?_) (fun c8 => ?_)
  · replace hF := if_t hF c8
    have hr9 := lp_r hF hx
    subst hr9
    exact K0 _ _ _ hH (lv_sub hl [1] rfl)
  · replace hF := if_f hF c8
    refine lv_aload_n X.x X.b (dk DX12_drops_0 19 rfl) rfl (lv_at hl 0 rfl) ?_
    refine og_getR (t := 1) OX12 X hq hH 3 (by decide) rfl kF_X12_7 (dk DX12_drops_0 20 rfl) ?_
    refine lv_iload X.x X.b (dk DX12_drops_0 21 rfl) (lv_at hl 2 rfl) ?_
    refine lv_aload_n X.x X.b (dk DX12_drops_0 22 rfl) rfl (lv_at hl 0 rfl) ?_
    refine og_getR (t := 1) OX12 X hq hH 3 (by decide) rfl kF_X12_7 (dk DX12_drops_0 23 rfl) ?_
    refine lv_iload X.x X.b (dk DX12_drops_0 24 rfl) (lv_at hl 2 rfl) ?_
    refine lv_iconst (v := 1) X.x X.b (dk DX12_drops_0 25 rfl) (by decide) ?_
    refine lv_iadd X.x X.b (dk DX12_drops_0 26 rfl) ?_
    obtain ⟨c9, hF⟩ := gd hF
    refine og_lald X hq hH 3 (by decide) rfl (inb_in c9) (dk DX12_drops_0 27 rfl) ?_
    obtain ⟨c10, hF⟩ := gd hF
    refine og_last X hq hH 3 (by decide) rfl (inb_in c10) (dk DX12_drops_0 28 rfl) (fun H locs hH => ?_)
    obtain ⟨t11, e12⟩ : ∃ y, y = oB s0 3 (vp_updL (s0.2.2.2 3) (b4 : Int32).toNatClampNeg (s0.2.2.2 3 (b4 + 1 : Int32).toNatClampNeg)) := ⟨_, rfl⟩
    rw [← e12] at hH
    replace hF := bnd_e hF e12
    obtain ⟨v13, e14⟩ : ∃ y : Int32, y = b4 + 1 := ⟨_, rfl⟩
    replace hF := bnd_e hF e14
    refine lv_iinc (v := v13) (lv' := [(4, .int v13), (0, .ref (q 53)), (2, .long b2)]) X.x X.b (dk DX12_drops_0 29 rfl) hl (k := 2) rfl (by rw [e14]; rfl) (by decide) rfl (fun ls hl => ?_)
    replace hl : lv_has ls 5 [(0, .ref (q 53)), (2, .long b2), (4, .int v13)] := lv_sub hl [1, 2, 0] rfl
    refine lv_goto (tgt := 24) X.x X.b (dk DX12_drops_0 30 rfl) (by decide) ?_
    exact (lp_l hF hx) _ _ _ hH (lv_sub hl [0, 1, 2] rfl) K0
set_option maxHeartbeats 4000000 in
set_option maxRecDepth 100000 in
theorem c_X12_drops {l : Launch} {G : mG} {h : mM} {q : Nat → Nat} (hq : oinj LX12 q) {st : OS} {a0 : Int32} {x : Int64 × OS} (hF : f_X12_drops st a0 = some x) : cQ l G yX12_drops cX12_drops 5 (some FieldType.long) rm_X12_drops [.ref (q 53), .int a0] (oset LX12 G q st h) (mQl G (fun r h1 => r = x.1 ∧ h1 = oset LX12 G q x.2 h)) := by
  refine mp_of (by decide +kernel) (Nat.le_of_ble_eq_true rfl) ?_
  intro p e s m below meth c X hr hlk hH hname ls hl
  dsimp only [f_X12_drops] at hF
  replace hl : lv_has ls 5 [(0, .ref (q 53)), (1, .int a0)] := hl
  refine lv_aload_n X.x X.b (dk DX12_drops_0 0 rfl) rfl (lv_at hl 0 rfl) ?_
  obtain ⟨x1, e2, hF⟩ := bd hF
  refine mr_cv0 hH ⟨rfl, rfl⟩ (mr_runV (As := []) (rest := []) X hH (c_X12_acts hq e2) ((oset_at hq (Nat.le_refl _) ohas_N).trans (congrArg some ocell_N)) OX12.1 kM_X12_417 kI_X12_acts kS_X12_acts kN_X12 kC_X12_acts hd_X12_acts ⟨Nat.le_of_ble_eq_true rfl, Nat.le_of_ble_eq_true rfl⟩ rfl hl.1 (Nat.le_of_ble_eq_true rfl) (dk DX12_drops_0 1 rfl) ⟨Nat.zero_le _, Nat.zero_le _⟩) (fun h1 H locs hp hH => ?_)
  rw [hp] at hH; clear hp
  refine lv_aload_n X.x X.b (dk DX12_drops_0 2 rfl) rfl (lv_at hl 0 rfl) ?_
  refine og_getR (t := 1) OX12 X hq hH 3 (by decide) rfl kF_X12_7 (dk DX12_drops_0 3 rfl) ?_
  refine lv_iload_n X.x X.b (dk DX12_drops_0 4 rfl) rfl (lv_at hl 1 rfl) ?_
  obtain ⟨c3, hF⟩ := gd hF
  refine og_lald X hq hH 3 (by decide) rfl (inb_in c3) (dk DX12_drops_0 5 rfl) ?_
  refine lv_topl (fun v4 e5 => ?_)
  replace hF := bnd_e hF e5
  refine lv_lstore_n (lv' := [(2, .long v4), (0, .ref (q 53)), (1, .int a0)]) X.x X.b (dk DX12_drops_0 6 rfl) rfl hl (by decide) rfl (fun ls hl => ?_)
  replace hl : lv_has ls 5 [(0, .ref (q 53)), (1, .int a0), (2, .long v4)] := lv_sub hl [1, 2, 0] rfl
  refine lv_aload_n X.x X.b (dk DX12_drops_0 7 rfl) rfl (lv_at hl 0 rfl) ?_
  refine lv_dup X.x X.b (dk DX12_drops_0 8 rfl) rfl ?_
  refine og_getI OX12 X hq hH 1 (by decide) rfl kF_X12_250 (dk DX12_drops_0 9 rfl) ?_
  refine lv_iconst (v := 1) X.x X.b (dk DX12_drops_0 10 rfl) (by decide) ?_
  refine lv_isub X.x X.b (dk DX12_drops_0 11 rfl) ?_
  refine og_putI OX12 X hq hH 1 (by decide) rfl kF_X12_250 rfl rfl rfl (dk DX12_drops_0 12 rfl) (fun H locs hH => ?_)
  obtain ⟨t6, e7⟩ : ∃ y, y = oI x1 1 ((x1.1 1) - 1) := ⟨_, rfl⟩
  rw [← e7] at hH
  replace hF := bnd_e hF e7
  refine lv_iload_n X.x X.b (dk DX12_drops_0 13 rfl) rfl (lv_at hl 1 rfl) ?_
  refine lv_istore (lv' := [(4, .int a0), (0, .ref (q 53)), (1, .int a0), (2, .long v4)]) X.x X.b (dk DX12_drops_0 14 rfl) hl (by decide) rfl (fun ls hl => ?_)
  replace hl : lv_has ls 5 [(0, .ref (q 53)), (2, .long v4), (4, .int a0)] := lv_sub hl [1, 3, 0] rfl
  obtain ⟨x15, e16, hF⟩ := bd hF
  replace hl : lv_has ls 5 [(0, .ref (q 53)), (2, .long v4), (4, .int a0)] := lv_sub hl [0, 1, 2] rfl
  refine w_X12_drops_24 hq X v4 _ _ e16 _ _ _ hH hl (fun H locs ls hH hl => ?_)
  refine lv_lload_n X.x X.b (dk DX12_drops_0 31 rfl) rfl (lv_at hl 0 rfl) ?_
  cases sm hF
  exact mr_lret X hr hlk hH ⟨rfl, rfl⟩ (dk DX12_drops_0 32 rfl)
-- X12_drop
abbrev rm_X12_drop : Room := { frames := 4, cells := 0, slots := 0, locals := 91 }
theorem hd_X12_drop : mHd yX12_drop 1 := ⟨by decide +kernel, by decide +kernel, by decide +kernel⟩
theorem DX12_drop_0 : ∀ t ∈ ([(0, .aload_n 0, 1), (1, .iconst 0, 1), (2, .putfield 106, 3), (5, .aload_n 0, 1), (6, .iload_n 1, 1), (7, .invokevirtual 263, 3), (10, .ifCond .eq 11, 3), (13, .aload_n 0, 1), (14, .iload_n 1, 1), (15, .invokevirtual 423, 3), (18, .goto 9, 3), (21, .aload_n 0, 1), (22, .iconst 1, 1), (23, .invokevirtual 236, 3), (26, .i2l, 1), (27, .lreturn, 1)] : List (Nat × Instr × Nat)), decode cX12_drop t.1 = .ok (t.2.1, t.2.2) := by decide +kernel
noncomputable def f_X12_drop (st : OS) (a0 : Int32) : Option (Int64 × OS) := bnd (oI st 2 0) (fun t1 => (f_X12_isLine t1 a0).bind (fun x3 => (if x3 = 0 then (f_X12_fails t1 1).bind (fun x6 => match x6 with | (v9, t8) => some (((v9 : Int32).toInt64, t8))) else (f_X12_drops t1 a0).bind (fun x10 => match x10 with | (v13, t12) => some ((v13, t12))))))
set_option maxHeartbeats 4000000 in
set_option maxRecDepth 100000 in
theorem c_X12_drop {l : Launch} {G : mG} {h : mM} {q : Nat → Nat} (hq : oinj LX12 q) {st : OS} {a0 : Int32} {x : Int64 × OS} (hF : f_X12_drop st a0 = some x) : cQ l G yX12_drop cX12_drop 2 (some FieldType.long) rm_X12_drop [.ref (q 53), .int a0] (oset LX12 G q st h) (mQl G (fun r h1 => r = x.1 ∧ h1 = oset LX12 G q x.2 h)) := by
  refine mp_of (by decide +kernel) (Nat.le_of_ble_eq_true rfl) ?_
  intro p e s m below meth c X hr hlk hH hname ls hl
  dsimp only [f_X12_drop] at hF
  replace hl : lv_has ls 2 [(0, .ref (q 53)), (1, .int a0)] := hl
  refine lv_aload_n X.x X.b (dk DX12_drop_0 0 rfl) rfl (lv_at hl 0 rfl) ?_
  refine lv_iconst (v := 0) X.x X.b (dk DX12_drop_0 1 rfl) (by decide) ?_
  refine og_putI OX12 X hq hH 2 (by decide) rfl kF_X12_106 rfl rfl rfl (dk DX12_drop_0 2 rfl) (fun H locs hH => ?_)
  obtain ⟨t1, e2⟩ : ∃ y, y = oI st 2 0 := ⟨_, rfl⟩
  rw [← e2] at hH
  replace hF := bnd_e hF e2
  refine lv_aload_n X.x X.b (dk DX12_drop_0 3 rfl) rfl (lv_at hl 0 rfl) ?_
  refine lv_iload_n X.x X.b (dk DX12_drop_0 4 rfl) rfl (lv_at hl 1 rfl) ?_
  obtain ⟨x3, e4, hF⟩ := bd hF
  refine mr_ci0 hH ⟨rfl, rfl⟩ (mr_runV (As := [.int a0]) (rest := []) X hH (c_X12_isLine hq e4) ((oset_at hq (Nat.le_refl _) ohas_N).trans (congrArg some ocell_N)) OX12.1 kM_X12_263 kI_X12_isLine kS_X12_isLine kN_X12 kC_X12_isLine hd_X12_isLine ⟨Nat.le_of_ble_eq_true rfl, Nat.le_of_ble_eq_true rfl⟩ rfl hl.1 (Nat.le_of_ble_eq_true rfl) (dk DX12_drop_0 5 rfl) ⟨Nat.zero_le _, Nat.zero_le _⟩) (fun r h1 H locs hp hH => ?_)
  obtain ⟨hr1, hr2⟩ := hp; rw [hr1]; rw [hr2] at hH; clear hr1 hr2
  refine lv_if_eq (tgt := 21) X.x X.b (dk DX12_drop_0 6 rfl) (by decide) (fun c5 => ?_) (fun c5 => ?_)
  · replace hF := if_t hF c5
    refine lv_aload_n X.x X.b (dk DX12_drop_0 11 rfl) rfl (lv_at hl 0 rfl) ?_
    refine lv_iconst (v := 1) X.x X.b (dk DX12_drop_0 12 rfl) (by decide) ?_
    obtain ⟨x6, e7, hF⟩ := bd hF
    refine mr_ci0 hH ⟨rfl, rfl⟩ (mr_runV (As := [.int 1]) (rest := []) X hH (c_X12_fails hq e7) ((oset_at hq (Nat.le_refl _) ohas_N).trans (congrArg some ocell_N)) OX12.1 kM_X12_236 kI_X12_fails kS_X12_fails kN_X12 kC_X12_fails hd_X12_fails ⟨Nat.le_of_ble_eq_true rfl, Nat.le_of_ble_eq_true rfl⟩ rfl hl.1 (Nat.le_of_ble_eq_true rfl) (dk DX12_drop_0 13 rfl) ⟨Nat.zero_le _, Nat.zero_le _⟩) (fun r h1 H locs hp hH => ?_)
    obtain ⟨hr1, hr2⟩ := hp; rw [hr1]; rw [hr2] at hH; clear hr1 hr2
    obtain ⟨v9, t8⟩ := x6
    try dsimp only at hF hH ⊢
    refine lv_i2l X.x X.b (dk DX12_drop_0 14 rfl) rfl ?_
    cases sm hF
    exact mr_lret X hr hlk hH ⟨rfl, rfl⟩ (dk DX12_drop_0 15 rfl)
  · replace hF := if_f hF c5
    refine lv_aload_n X.x X.b (dk DX12_drop_0 7 rfl) rfl (lv_at hl 0 rfl) ?_
    refine lv_iload_n X.x X.b (dk DX12_drop_0 8 rfl) rfl (lv_at hl 1 rfl) ?_
    obtain ⟨x10, e11, hF⟩ := bd hF
    refine mr_cl0 hH ⟨rfl, rfl⟩ (mr_runV (As := [.int a0]) (rest := []) X hH (c_X12_drops hq e11) ((oset_at hq (Nat.le_refl _) ohas_N).trans (congrArg some ocell_N)) OX12.1 kM_X12_423 kI_X12_drops kS_X12_drops kN_X12 kC_X12_drops hd_X12_drops ⟨Nat.le_of_ble_eq_true rfl, Nat.le_of_ble_eq_true rfl⟩ rfl hl.1 (Nat.le_of_ble_eq_true rfl) (dk DX12_drop_0 9 rfl) ⟨Nat.zero_le _, Nat.zero_le _⟩) (fun r h1 H locs hp hH => ?_)
    obtain ⟨hr1, hr2⟩ := hp; rw [hr1]; rw [hr2] at hH; clear hr1 hr2
    obtain ⟨v13, t12⟩ := x10
    try dsimp only at hF hH ⊢
    refine lv_goto (tgt := 27) X.x X.b (dk DX12_drop_0 10 rfl) (by decide) ?_
    cases sm hF
    exact mr_lret X hr hlk hH ⟨rfl, rfl⟩ (dk DX12_drop_0 15 rfl)
-- X12_duals
abbrev rm_X12_duals : Room := { frames := 3, cells := 0, slots := 0, locals := 67 }
theorem hd_X12_duals : mHd yX12_duals 0 := ⟨by decide +kernel, by decide +kernel, by decide +kernel⟩
theorem DX12_duals_0 : ∀ t ∈ ([(0, .aload_n 0, 1), (1, .invokevirtual 417, 3), (4, .iconst 0, 1), (5, .istore_n 1, 1), (6, .iconst 0, 1), (7, .istore_n 2, 1), (8, .iload_n 2, 1), (9, .aload_n 0, 1), (10, .getfield 248, 3), (13, .if_icmp .ge 36, 3), (16, .aload_n 0, 1), (17, .iload_n 2, 1), (18, .invokevirtual 269, 3), (21, .lstore_n 3, 1), (22, .lload_n 3, 1), (23, .invokestatic 283, 3), (26, .iconst 2, 1), (27, .if_icmp .ge 6, 3), (30, .goto 13, 3), (33, .aload_n 0, 1), (34, .getfield 21, 3), (37, .iload_n 1, 1), (38, .lload_n 3, 1), (39, .lastore, 1), (40, .iinc 1 1, 3), (43, .iinc 2 1, 3), (46, .goto (-38), 3), (49, .aload_n 0, 1), (50, .aload_n 0, 1), (51, .getfield 250, 3), (54, .putfield 248, 3), (57, .aload_n 0, 1), (58, .iload_n 1, 1), (59, .putfield 250, 3), (62, .iconst 0, 1), (63, .istore_n 2, 1), (64, .iload_n 2, 1), (65, .iload_n 1, 1), (66, .if_icmp .ge 21, 3), (69, .aload_n 0, 1), (70, .getfield 7, 3), (73, .iload_n 2, 1), (74, .aload_n 0, 1), (75, .getfield 21, 3), (78, .iload_n 2, 1), (79, .laload, 1), (80, .lastore, 1), (81, .iinc 2 1, 3), (84, .goto (-20), 3), (87, .return_, 1)] : List (Nat × Instr × Nat)), decode cX12_duals t.1 = .ok (t.2.1, t.2.2) := by decide +kernel
noncomputable def f_X12_duals_8 : (OS × Int32 × Int32) → Option ((OS × Int32 × Int32) ⊕ (OS × Int32)) := fun z => match z with | (s0, b1, b2) => (if (s0.1 0) ≤ b2 then some (.inr ((s0, b1))) else (f_X12_throughOf s0 b2).bind (fun x4 => (f_X12_ones x4).bind (fun x6 => (if 2 ≤ x6 then if inb b1 64 = true then bnd (oB s0 17 (vp_updL (s0.2.2.2 17) (b1 : Int32).toNatClampNeg x4)) (fun t10 => bnd (b1 + 1 : Int32) (fun v12 => bnd (b2 + 1 : Int32) (fun v14 => some (.inl ((t10, v12, v14)))))) else none else bnd (b2 + 1 : Int32) (fun v16 => some (.inl ((s0, b1, v16))))))))
noncomputable def f_X12_duals_64 (b1 : Int32) : (OS × Int32) → Option ((OS × Int32) ⊕ (OS)) := fun z => match z with | (s0, b2) => (if b1 ≤ b2 then some (.inr s0) else if inb b2 64 = true then bnd (oB s0 3 (vp_updL (s0.2.2.2 3) (b2 : Int32).toNatClampNeg (s0.2.2.2 17 (b2 : Int32).toNatClampNeg))) (fun t28 => bnd (b2 + 1 : Int32) (fun v30 => some (.inl ((t28, v30))))) else none)
noncomputable def f_X12_duals (st : OS) : Option (OS) := (f_X12_acts st).bind (fun x1 => (lpv (f_X12_duals_8) ((x1, 0, 0))).bind (fun x18 => match x18 with | (t20, v21) => bnd (oI t20 0 (t20.1 1)) (fun t22 => bnd (oI t22 1 v21) (fun t24 => (lpv (f_X12_duals_64 v21) ((t24, 0))).bind (fun x32 => some x32)))))
set_option maxHeartbeats 4000000 in
set_option maxRecDepth 100000 in
theorem w_X12_duals_8 {p : Program} {l : Launch} {e : Env} {s : State} {m : MethodId} {args : Array Value} {below : List Frame} {meth : Method} {c : Code} {Q : State → Prop} {G : mG} {h : mM} {q : Nat → Nat} (hq : oinj LX12 q) (X : mX G p m c cX12_duals 5 s args RX12) : ∀ (z : OS × Int32 × Int32) (r : OS × Int32), lpv (f_X12_duals_8) z = some r → ∀ (H : Heap) (locs : List Loc) (ls : Array Slot), mH G (oset LX12 G q z.1 h) s.heap H locs → lv_has ls 5 [(0, .ref (q 53)), (1, .int z.2.1), (2, .int z.2.2)] → (∀ (H : Heap) (locs : List Loc) (ls : Array Slot), mH G (oset LX12 G q r.1 h) s.heap H locs → lv_has ls 5 [(0, .ref (q 53)), (1, .int r.2)] → W p l e rm_X12_duals s m args below meth c H locs 0 0 Q (F0 m 49 ls [])) → W p l e rm_X12_duals s m args below meth c H locs 0 0 Q (F0 m 8 ls []) := by
  refine lpv_rec ?_
  intro z r x hF hx H locs ls hH hl K0
  obtain ⟨s0, b1, b2⟩ := z
  dsimp only [f_X12_duals_8] at hF
  try dsimp only at hH hl
  refine lv_iload_n X.x X.b (dk DX12_duals_0 6 rfl) rfl (lv_at hl 2 rfl) ?_
  refine lv_aload_n X.x X.b (dk DX12_duals_0 7 rfl) rfl (lv_at hl 0 rfl) ?_
  refine og_getI OX12 X hq hH 0 (by decide) rfl kF_X12_248 (dk DX12_duals_0 8 rfl) ?_
  refine lv_icmp_ge (tgt := 49) X.x X.b (dk DX12_duals_0 9 rfl) (by decide) (fun c3 => ?_) (fun c3 => ?_)
  · replace hF := if_t hF c3
    have hr9 := lp_r hF hx
    subst hr9
    exact K0 _ _ _ hH (lv_sub hl [0, 1] rfl)
  · replace hF := if_f hF c3
    refine lv_aload_n X.x X.b (dk DX12_duals_0 10 rfl) rfl (lv_at hl 0 rfl) ?_
    refine lv_iload_n X.x X.b (dk DX12_duals_0 11 rfl) rfl (lv_at hl 2 rfl) ?_
    obtain ⟨x4, e5, hF⟩ := bd hF
    refine mr_cl0 hH ⟨rfl, rfl⟩ (mr_runV (As := [.int b2]) (rest := []) X hH (c_X12_throughOf hq e5) ((oset_at hq (Nat.le_refl _) ohas_N).trans (congrArg some ocell_N)) OX12.1 kM_X12_269 kI_X12_throughOf kS_X12_throughOf kN_X12 kC_X12_throughOf hd_X12_throughOf ⟨Nat.le_of_ble_eq_true rfl, Nat.le_of_ble_eq_true rfl⟩ rfl hl.1 (Nat.le_of_ble_eq_true rfl) (dk DX12_duals_0 12 rfl) ⟨Nat.zero_le _, Nat.zero_le _⟩) (fun r h1 H locs hp hH => ?_)
    obtain ⟨hr1, hr2⟩ := hp; rw [hr1]; rw [hr2] at hH; clear hr1 hr2
    refine lv_lstore_n (lv' := [(3, .long x4), (0, .ref (q 53)), (1, .int b1), (2, .int b2)]) X.x X.b (dk DX12_duals_0 13 rfl) rfl hl (by decide) rfl (fun ls hl => ?_)
    replace hl : lv_has ls 5 [(0, .ref (q 53)), (1, .int b1), (2, .int b2), (3, .long x4)] := lv_sub hl [1, 2, 3, 0] rfl
    refine lv_lload_n X.x X.b (dk DX12_duals_0 14 rfl) rfl (lv_at hl 3 rfl) ?_
    obtain ⟨x6, e7, hF⟩ := bd hF
    refine mr_ci0 hH ⟨rfl, rfl⟩ (mr_runS (As := [.long x4]) (rest := []) X hH (c_X12_ones e7) kM_X12_283 kT_X12_ones kN_X12 kC_X12_ones hd_X12_ones ⟨Nat.le_of_ble_eq_true rfl, Nat.le_of_ble_eq_true rfl⟩ rfl hl.1 (Nat.le_of_ble_eq_true rfl) (dk DX12_duals_0 15 rfl) ⟨Nat.zero_le _, Nat.zero_le _⟩) (fun r h1 H locs hp hH => ?_)
    obtain ⟨hr1, hr2⟩ := hp; rw [hr1]; rw [hr2] at hH; clear hr1 hr2
    refine lv_iconst (v := 2) X.x X.b (dk DX12_duals_0 16 rfl) (by decide) ?_
    refine lv_icmp_ge (tgt := 33) X.x X.b (dk DX12_duals_0 17 rfl) (by decide) (fun c8 => ?_) (fun c8 => ?_)
    · replace hF := if_t hF c8
      refine lv_aload_n X.x X.b (dk DX12_duals_0 19 rfl) rfl (lv_at hl 0 rfl) ?_
      refine og_getR (t := 1) OX12 X hq hH 17 (by decide) rfl kF_X12_21 (dk DX12_duals_0 20 rfl) ?_
      refine lv_iload_n X.x X.b (dk DX12_duals_0 21 rfl) rfl (lv_at hl 1 rfl) ?_
      refine lv_lload_n X.x X.b (dk DX12_duals_0 22 rfl) rfl (lv_at hl 3 rfl) ?_
      obtain ⟨c9, hF⟩ := gd hF
      refine og_last X hq hH 17 (by decide) rfl (inb_in c9) (dk DX12_duals_0 23 rfl) (fun H locs hH => ?_)
      obtain ⟨t10, e11⟩ : ∃ y, y = oB s0 17 (vp_updL (s0.2.2.2 17) (b1 : Int32).toNatClampNeg x4) := ⟨_, rfl⟩
      rw [← e11] at hH
      replace hF := bnd_e hF e11
      obtain ⟨v12, e13⟩ : ∃ y : Int32, y = b1 + 1 := ⟨_, rfl⟩
      replace hF := bnd_e hF e13
      refine lv_iinc (v := v12) (lv' := [(1, .int v12), (0, .ref (q 53)), (2, .int b2), (3, .long x4)]) X.x X.b (dk DX12_duals_0 24 rfl) hl (k := 1) rfl (by rw [e13]; rfl) (by decide) rfl (fun ls hl => ?_)
      replace hl : lv_has ls 5 [(0, .ref (q 53)), (1, .int v12), (2, .int b2)] := lv_sub hl [1, 0, 2] rfl
      obtain ⟨v14, e15⟩ : ∃ y : Int32, y = b2 + 1 := ⟨_, rfl⟩
      replace hF := bnd_e hF e15
      refine lv_iinc (v := v14) (lv' := [(2, .int v14), (0, .ref (q 53)), (1, .int v12)]) X.x X.b (dk DX12_duals_0 25 rfl) hl (k := 2) rfl (by rw [e15]; rfl) (by decide) rfl (fun ls hl => ?_)
      replace hl : lv_has ls 5 [(0, .ref (q 53)), (1, .int v12), (2, .int v14)] := lv_sub hl [1, 2, 0] rfl
      refine lv_goto (tgt := 8) X.x X.b (dk DX12_duals_0 26 rfl) (by decide) ?_
      exact (lp_l hF hx) _ _ _ hH (lv_sub hl [0, 1, 2] rfl) K0
    · replace hF := if_f hF c8
      refine lv_goto (tgt := 43) X.x X.b (dk DX12_duals_0 18 rfl) (by decide) ?_
      obtain ⟨v16, e17⟩ : ∃ y : Int32, y = b2 + 1 := ⟨_, rfl⟩
      replace hF := bnd_e hF e17
      refine lv_iinc (v := v16) (lv' := [(2, .int v16), (0, .ref (q 53)), (1, .int b1), (3, .long x4)]) X.x X.b (dk DX12_duals_0 25 rfl) hl (k := 2) rfl (by rw [e17]; rfl) (by decide) rfl (fun ls hl => ?_)
      replace hl : lv_has ls 5 [(0, .ref (q 53)), (1, .int b1), (2, .int v16)] := lv_sub hl [1, 2, 0] rfl
      refine lv_goto (tgt := 8) X.x X.b (dk DX12_duals_0 26 rfl) (by decide) ?_
      exact (lp_l hF hx) _ _ _ hH (lv_sub hl [0, 1, 2] rfl) K0
set_option maxHeartbeats 4000000 in
set_option maxRecDepth 100000 in
theorem w_X12_duals_64 {p : Program} {l : Launch} {e : Env} {s : State} {m : MethodId} {args : Array Value} {below : List Frame} {meth : Method} {c : Code} {Q : State → Prop} {G : mG} {h : mM} {q : Nat → Nat} (hq : oinj LX12 q) (X : mX G p m c cX12_duals 5 s args RX12) (b1 : Int32) : ∀ (z : OS × Int32) (r : OS), lpv (f_X12_duals_64 b1) z = some r → ∀ (H : Heap) (locs : List Loc) (ls : Array Slot), mH G (oset LX12 G q z.1 h) s.heap H locs → lv_has ls 5 [(0, .ref (q 53)), (1, .int b1), (2, .int z.2)] → (∀ (H : Heap) (locs : List Loc) (ls : Array Slot), mH G (oset LX12 G q r h) s.heap H locs → lv_has ls 5 [] → W p l e rm_X12_duals s m args below meth c H locs 0 0 Q (F0 m 87 ls [])) → W p l e rm_X12_duals s m args below meth c H locs 0 0 Q (F0 m 64 ls []) := by
  refine lpv_rec ?_
  intro z r x hF hx H locs ls hH hl K0
  obtain ⟨s0, b2⟩ := z
  dsimp only [f_X12_duals_64] at hF
  try dsimp only at hH hl
  refine lv_iload_n X.x X.b (dk DX12_duals_0 36 rfl) rfl (lv_at hl 2 rfl) ?_
  refine lv_iload_n X.x X.b (dk DX12_duals_0 37 rfl) rfl (lv_at hl 1 rfl) ?_
  refine lv_icmp_ge (tgt := 87) X.x X.b (dk DX12_duals_0 38 rfl) (by decide) (fun c26 => ?_) (fun c26 => ?_)
  · replace hF := if_t hF c26
    have hr9 := lp_r hF hx
    subst hr9
    exact K0 _ _ _ hH (lv_sub hl [] rfl)
  · replace hF := if_f hF c26
    refine lv_aload_n X.x X.b (dk DX12_duals_0 39 rfl) rfl (lv_at hl 0 rfl) ?_
    refine og_getR (t := 1) OX12 X hq hH 3 (by decide) rfl kF_X12_7 (dk DX12_duals_0 40 rfl) ?_
    refine lv_iload_n X.x X.b (dk DX12_duals_0 41 rfl) rfl (lv_at hl 2 rfl) ?_
    refine lv_aload_n X.x X.b (dk DX12_duals_0 42 rfl) rfl (lv_at hl 0 rfl) ?_
    refine og_getR (t := 1) OX12 X hq hH 17 (by decide) rfl kF_X12_21 (dk DX12_duals_0 43 rfl) ?_
    refine lv_iload_n X.x X.b (dk DX12_duals_0 44 rfl) rfl (lv_at hl 2 rfl) ?_
    obtain ⟨c27, hF⟩ := gd hF
    refine og_lald X hq hH 17 (by decide) rfl (inb_in c27) (dk DX12_duals_0 45 rfl) ?_
    refine og_last X hq hH 3 (by decide) rfl (inb_in c27) (dk DX12_duals_0 46 rfl) (fun H locs hH => ?_)
    obtain ⟨t28, e29⟩ : ∃ y, y = oB s0 3 (vp_updL (s0.2.2.2 3) (b2 : Int32).toNatClampNeg (s0.2.2.2 17 (b2 : Int32).toNatClampNeg)) := ⟨_, rfl⟩
    rw [← e29] at hH
    replace hF := bnd_e hF e29
    obtain ⟨v30, e31⟩ : ∃ y : Int32, y = b2 + 1 := ⟨_, rfl⟩
    replace hF := bnd_e hF e31
    refine lv_iinc (v := v30) (lv' := [(2, .int v30), (0, .ref (q 53)), (1, .int b1)]) X.x X.b (dk DX12_duals_0 47 rfl) hl (k := 2) rfl (by rw [e31]; rfl) (by decide) rfl (fun ls hl => ?_)
    replace hl : lv_has ls 5 [(0, .ref (q 53)), (1, .int b1), (2, .int v30)] := lv_sub hl [1, 2, 0] rfl
    refine lv_goto (tgt := 64) X.x X.b (dk DX12_duals_0 48 rfl) (by decide) ?_
    exact (lp_l hF hx) _ _ _ hH (lv_sub hl [0, 1, 2] rfl) K0
set_option maxHeartbeats 4000000 in
set_option maxRecDepth 100000 in
theorem c_X12_duals {l : Launch} {G : mG} {h : mM} {q : Nat → Nat} (hq : oinj LX12 q) {st : OS} {x : OS} (hF : f_X12_duals st = some x) : cQ l G yX12_duals cX12_duals 5 none rm_X12_duals [.ref (q 53)] (oset LX12 G q st h) (mQv G (fun h1 => h1 = oset LX12 G q x h)) := by
  refine mp_of (by decide +kernel) (Nat.le_of_ble_eq_true rfl) ?_
  intro p e s m below meth c X hr hlk hH hname ls hl
  dsimp only [f_X12_duals] at hF
  replace hl : lv_has ls 5 [(0, .ref (q 53))] := hl
  refine lv_aload_n X.x X.b (dk DX12_duals_0 0 rfl) rfl (lv_at hl 0 rfl) ?_
  obtain ⟨x1, e2, hF⟩ := bd hF
  refine mr_cv0 hH ⟨rfl, rfl⟩ (mr_runV (As := []) (rest := []) X hH (c_X12_acts hq e2) ((oset_at hq (Nat.le_refl _) ohas_N).trans (congrArg some ocell_N)) OX12.1 kM_X12_417 kI_X12_acts kS_X12_acts kN_X12 kC_X12_acts hd_X12_acts ⟨Nat.le_of_ble_eq_true rfl, Nat.le_of_ble_eq_true rfl⟩ rfl hl.1 (Nat.le_of_ble_eq_true rfl) (dk DX12_duals_0 1 rfl) ⟨Nat.zero_le _, Nat.zero_le _⟩) (fun h1 H locs hp hH => ?_)
  rw [hp] at hH; clear hp
  refine lv_iconst (v := 0) X.x X.b (dk DX12_duals_0 2 rfl) (by decide) ?_
  refine lv_istore_n (lv' := [(1, .int 0), (0, .ref (q 53))]) X.x X.b (dk DX12_duals_0 3 rfl) rfl hl (by decide) rfl (fun ls hl => ?_)
  replace hl : lv_has ls 5 [(0, .ref (q 53)), (1, .int 0)] := lv_sub hl [1, 0] rfl
  refine lv_iconst (v := 0) X.x X.b (dk DX12_duals_0 4 rfl) (by decide) ?_
  refine lv_istore_n (lv' := [(2, .int 0), (0, .ref (q 53)), (1, .int 0)]) X.x X.b (dk DX12_duals_0 5 rfl) rfl hl (by decide) rfl (fun ls hl => ?_)
  replace hl : lv_has ls 5 [(0, .ref (q 53)), (1, .int 0), (2, .int 0)] := lv_sub hl [1, 2, 0] rfl
  obtain ⟨x18, e19, hF⟩ := bd hF
  replace hl : lv_has ls 5 [(0, .ref (q 53)), (1, .int 0), (2, .int 0)] := lv_sub hl [0, 1, 2] rfl
  obtain ⟨t20, v21⟩ := x18
  try dsimp only at hF
  refine w_X12_duals_8 hq X _ _ e19 _ _ _ hH hl (fun H locs ls hH hl => ?_)
  try dsimp only at hH hl
  refine lv_aload_n X.x X.b (dk DX12_duals_0 27 rfl) rfl (lv_at hl 0 rfl) ?_
  refine lv_aload_n X.x X.b (dk DX12_duals_0 28 rfl) rfl (lv_at hl 0 rfl) ?_
  refine og_getI OX12 X hq hH 1 (by decide) rfl kF_X12_250 (dk DX12_duals_0 29 rfl) ?_
  refine og_putI OX12 X hq hH 0 (by decide) rfl kF_X12_248 rfl rfl rfl (dk DX12_duals_0 30 rfl) (fun H locs hH => ?_)
  obtain ⟨t22, e23⟩ : ∃ y, y = oI t20 0 (t20.1 1) := ⟨_, rfl⟩
  rw [← e23] at hH
  replace hF := bnd_e hF e23
  refine lv_aload_n X.x X.b (dk DX12_duals_0 31 rfl) rfl (lv_at hl 0 rfl) ?_
  refine lv_iload_n X.x X.b (dk DX12_duals_0 32 rfl) rfl (lv_at hl 1 rfl) ?_
  refine og_putI OX12 X hq hH 1 (by decide) rfl kF_X12_250 rfl rfl rfl (dk DX12_duals_0 33 rfl) (fun H locs hH => ?_)
  obtain ⟨t24, e25⟩ : ∃ y, y = oI t22 1 v21 := ⟨_, rfl⟩
  rw [← e25] at hH
  replace hF := bnd_e hF e25
  refine lv_iconst (v := 0) X.x X.b (dk DX12_duals_0 34 rfl) (by decide) ?_
  refine lv_istore_n (lv' := [(2, .int 0), (0, .ref (q 53)), (1, .int v21)]) X.x X.b (dk DX12_duals_0 35 rfl) rfl hl (by decide) rfl (fun ls hl => ?_)
  replace hl : lv_has ls 5 [(0, .ref (q 53)), (1, .int v21), (2, .int 0)] := lv_sub hl [1, 2, 0] rfl
  obtain ⟨x32, e33, hF⟩ := bd hF
  replace hl : lv_has ls 5 [(0, .ref (q 53)), (1, .int v21), (2, .int 0)] := lv_sub hl [0, 1, 2] rfl
  refine w_X12_duals_64 hq X v21 _ _ e33 _ _ _ hH hl (fun H locs ls hH hl => ?_)
  cases sm hF
  exact mr_vret X hr hlk hH rfl (dk DX12_duals_0 49 rfl)
-- X12_dual
abbrev rm_X12_dual : Room := { frames := 4, cells := 0, slots := 0, locals := 91 }
theorem hd_X12_dual : mHd yX12_dual 0 := ⟨by decide +kernel, by decide +kernel, by decide +kernel⟩
theorem DX12_dual_0 : ∀ t ∈ ([(0, .aload_n 0, 1), (1, .iconst 0, 1), (2, .putfield 106, 3), (5, .aload_n 0, 1), (6, .invokevirtual 426, 3), (9, .aload_n 0, 1), (10, .getfield 248, 3), (13, .ireturn, 1)] : List (Nat × Instr × Nat)), decode cX12_dual t.1 = .ok (t.2.1, t.2.2) := by decide +kernel
noncomputable def f_X12_dual (st : OS) : Option (Int32 × OS) := bnd (oI st 2 0) (fun t1 => (f_X12_duals t1).bind (fun x3 => some ((x3.1 0, x3))))
set_option maxHeartbeats 4000000 in
set_option maxRecDepth 100000 in
theorem c_X12_dual {l : Launch} {G : mG} {h : mM} {q : Nat → Nat} (hq : oinj LX12 q) {st : OS} {x : Int32 × OS} (hF : f_X12_dual st = some x) : cQ l G yX12_dual cX12_dual 1 (some FieldType.int) rm_X12_dual [.ref (q 53)] (oset LX12 G q st h) (mQi G (fun r h1 => r = x.1 ∧ h1 = oset LX12 G q x.2 h)) := by
  refine mp_of (by decide +kernel) (Nat.le_of_ble_eq_true rfl) ?_
  intro p e s m below meth c X hr hlk hH hname ls hl
  dsimp only [f_X12_dual] at hF
  replace hl : lv_has ls 1 [(0, .ref (q 53))] := hl
  refine lv_aload_n X.x X.b (dk DX12_dual_0 0 rfl) rfl (lv_at hl 0 rfl) ?_
  refine lv_iconst (v := 0) X.x X.b (dk DX12_dual_0 1 rfl) (by decide) ?_
  refine og_putI OX12 X hq hH 2 (by decide) rfl kF_X12_106 rfl rfl rfl (dk DX12_dual_0 2 rfl) (fun H locs hH => ?_)
  obtain ⟨t1, e2⟩ : ∃ y, y = oI st 2 0 := ⟨_, rfl⟩
  rw [← e2] at hH
  replace hF := bnd_e hF e2
  refine lv_aload_n X.x X.b (dk DX12_dual_0 3 rfl) rfl (lv_at hl 0 rfl) ?_
  obtain ⟨x3, e4, hF⟩ := bd hF
  refine mr_cv0 hH ⟨rfl, rfl⟩ (mr_runV (As := []) (rest := []) X hH (c_X12_duals hq e4) ((oset_at hq (Nat.le_refl _) ohas_N).trans (congrArg some ocell_N)) OX12.1 kM_X12_426 kI_X12_duals kS_X12_duals kN_X12 kC_X12_duals hd_X12_duals ⟨Nat.le_of_ble_eq_true rfl, Nat.le_of_ble_eq_true rfl⟩ rfl hl.1 (Nat.le_of_ble_eq_true rfl) (dk DX12_dual_0 4 rfl) ⟨Nat.zero_le _, Nat.zero_le _⟩) (fun h1 H locs hp hH => ?_)
  rw [hp] at hH; clear hp
  refine lv_aload_n X.x X.b (dk DX12_dual_0 5 rfl) rfl (lv_at hl 0 rfl) ?_
  refine og_getI OX12 X hq hH 0 (by decide) rfl kF_X12_248 (dk DX12_dual_0 6 rfl) ?_
  cases sm hF
  exact mr_iret X hr hlk hH ⟨rfl, rfl⟩ (dk DX12_dual_0 7 rfl)
-- X12_leaves
abbrev rm_X12_leaves : Room := { frames := 3, cells := 0, slots := 0, locals := 67 }
theorem hd_X12_leaves : mHd yX12_leaves 1 := ⟨by decide +kernel, by decide +kernel, by decide +kernel⟩
theorem DX12_leaves_0 : ∀ t ∈ ([(0, .aload_n 0, 1), (1, .invokevirtual 417, 3), (4, .aload_n 0, 1), (5, .invokevirtual 272, 3), (8, .aload_n 0, 1), (9, .invokevirtual 259, 3), (12, .aload_n 0, 1), (13, .getfield 30, 3), (16, .iload_n 1, 1), (17, .laload, 1), (18, .ldc2_w 109, 3), (21, .lxor, 1), (22, .land, 1), (23, .iload_n 1, 1), (24, .invokestatic 111, 3), (27, .ldc2_w 109, 3), (30, .lxor, 1), (31, .land, 1), (32, .lstore_n 2, 1), (33, .iconst 0, 1), (34, .istore 4, 2), (36, .iconst 0, 1), (37, .istore 5, 2), (39, .iload 5, 2), (41, .aload_n 0, 1), (42, .getfield 250, 3), (45, .if_icmp .ge 108, 3), (48, .aload_n 0, 1), (49, .getfield 7, 3), (52, .iload 5, 2), (54, .laload, 1), (55, .lload_n 2, 1), (56, .land, 1), (57, .invokestatic 283, 3), (60, .iconst 2, 1), (61, .if_icmp .ge 6, 3), (64, .goto 83, 3), (67, .lconst 0, 1), (68, .lstore 6, 2), (70, .iconst 0, 1), (71, .istore 8, 2), (73, .iconst 0, 1), (74, .istore 9, 2), (76, .iload 9, 2), (78, .aload_n 0, 1), (79, .getfield 248, 3), (82, .if_icmp .ge 53, 3), (85, .lload_n 2, 1), (86, .iload 9, 2), (88, .invokestatic 232, 3), (91, .ifCond .ne 6, 3), (94, .goto 35, 3), (97, .lload 6, 2), (99, .aload_n 0, 1), (100, .getfield 7, 3), (103, .iload 5, 2), (105, .laload, 1), (106, .iload 9, 2), (108, .invokestatic 232, 3), (111, .ifCond .eq 11, 3)] : List (Nat × Instr × Nat)), decode cX12_leaves t.1 = .ok (t.2.1, t.2.2) := by decide +kernel
theorem DX12_leaves_1 : ∀ t ∈ ([(114, .iload 8, 2), (116, .invokestatic 111, 3), (119, .goto 4, 3), (122, .lconst 0, 1), (123, .lor, 1), (124, .lstore 6, 2), (126, .iinc 8 1, 3), (129, .iinc 9 1, 3), (132, .goto (-56), 3), (135, .aload_n 0, 1), (136, .getfield 21, 3), (139, .iload 4, 2), (141, .lload 6, 2), (143, .lastore, 1), (144, .iinc 4 1, 3), (147, .iinc 5 1, 3), (150, .goto (-111), 3), (153, .aload_n 0, 1), (154, .lload_n 2, 1), (155, .invokestatic 283, 3), (158, .putfield 248, 3), (161, .aload_n 0, 1), (162, .iload 4, 2), (164, .putfield 250, 3), (167, .iconst 0, 1), (168, .istore 5, 2), (170, .iload 5, 2), (172, .iload 4, 2), (174, .if_icmp .ge 23, 3), (177, .aload_n 0, 1), (178, .getfield 7, 3), (181, .iload 5, 2), (183, .aload_n 0, 1), (184, .getfield 21, 3), (187, .iload 5, 2), (189, .laload, 1), (190, .lastore, 1), (191, .iinc 5 1, 3), (194, .goto (-24), 3), (197, .return_, 1)] : List (Nat × Instr × Nat)), decode cX12_leaves t.1 = .ok (t.2.1, t.2.2) := by decide +kernel
noncomputable def f_X12_leaves_76 (s0 : OS) (b2 : Int64) (b4 : Int32) (b5 : Int32) : (Int64 × Int32 × Int32) → Option ((Int64 × Int32 × Int32) ⊕ (Int64)) := fun z => match z with | (b6, b8, b9) => (if (s0.1 0) ≤ b9 then some (.inr b6) else (f_X12_has b2 b9).bind (fun x18 => (if x18 = 0 then bnd (b9 + 1 : Int32) (fun v39 => some (.inl ((b6, b8, v39)))) else if inb b5 64 = true then (f_X12_has (s0.2.2.2 3 (b5 : Int32).toNatClampNeg) b9).bind (fun x22 => (if x22 = 0 then bnd (b6 ||| 0 : Int64) (fun v25 => bnd (b8 + 1 : Int32) (fun v27 => bnd (b9 + 1 : Int32) (fun v29 => some (.inl ((v25, v27, v29)))))) else (f_X12_bit b8).bind (fun x31 => bnd (b6 ||| x31 : Int64) (fun v33 => bnd (b8 + 1 : Int32) (fun v35 => bnd (b9 + 1 : Int32) (fun v37 => some (.inl ((v33, v35, v37))))))))) else none)))
noncomputable def f_X12_leaves_39 (b2 : Int64) : (OS × Int32 × Int32) → Option ((OS × Int32 × Int32) ⊕ (OS × Int32)) := fun z => match z with | (s0, b4, b5) => (if (s0.1 1) ≤ b5 then some (.inr ((s0, b4))) else if inb b5 64 = true then (f_X12_ones ((s0.2.2.2 3 (b5 : Int32).toNatClampNeg) &&& b2)).bind (fun x14 => (if 2 ≤ x14 then (lpv (f_X12_leaves_76 s0 b2 b4 b5) ((0, 0, 0))).bind (fun x41 => if inb b4 64 = true then bnd (oB s0 17 (vp_updL (s0.2.2.2 17) (b4 : Int32).toNatClampNeg x41)) (fun t45 => bnd (b4 + 1 : Int32) (fun v47 => bnd (b5 + 1 : Int32) (fun v49 => some (.inl ((t45, v47, v49)))))) else none) else bnd (b5 + 1 : Int32) (fun v51 => some (.inl ((s0, b4, v51)))))) else none)
noncomputable def f_X12_leaves_170 (b4 : Int32) : (OS × Int32) → Option ((OS × Int32) ⊕ (OS)) := fun z => match z with | (s0, b5) => (if b4 ≤ b5 then some (.inr s0) else if inb b5 64 = true then bnd (oB s0 3 (vp_updL (s0.2.2.2 3) (b5 : Int32).toNatClampNeg (s0.2.2.2 17 (b5 : Int32).toNatClampNeg))) (fun t65 => bnd (b5 + 1 : Int32) (fun v67 => some (.inl ((t65, v67))))) else none)
noncomputable def f_X12_leaves (st : OS) (a0 : Int32) : Option (OS) := (f_X12_acts st).bind (fun x1 => (f_X12_layNears x1).bind (fun x3 => (f_X12_all x3).bind (fun x5 => if inb a0 64 = true then (f_X12_bit a0).bind (fun x8 => bnd ((x5 &&& ((x3.2.2.2 20 (a0 : Int32).toNatClampNeg) ^^^ ((-1)))) &&& (x8 ^^^ ((-1))) : Int64) (fun v10 => (lpv (f_X12_leaves_39 v10) ((x3, 0, 0))).bind (fun x53 => match x53 with | (t55, v56) => (f_X12_ones v10).bind (fun x57 => bnd (oI t55 0 x57) (fun t59 => bnd (oI t59 1 v56) (fun t61 => (lpv (f_X12_leaves_170 v56) ((t61, 0))).bind (fun x69 => some x69))))))) else none)))
set_option maxHeartbeats 4000000 in
set_option maxRecDepth 100000 in
theorem w_X12_leaves_76 {p : Program} {l : Launch} {e : Env} {s : State} {m : MethodId} {args : Array Value} {below : List Frame} {meth : Method} {c : Code} {Q : State → Prop} {G : mG} {h : mM} {q : Nat → Nat} (hq : oinj LX12 q) (X : mX G p m c cX12_leaves 10 s args RX12) (s0 : OS) (b2 : Int64) (b4 : Int32) (b5 : Int32) : ∀ (z : Int64 × Int32 × Int32) (r : Int64), lpv (f_X12_leaves_76 s0 b2 b4 b5) z = some r → ∀ (H : Heap) (locs : List Loc) (ls : Array Slot), mH G (oset LX12 G q s0 h) s.heap H locs → lv_has ls 10 [(0, .ref (q 53)), (2, .long b2), (4, .int b4), (5, .int b5), (6, .long z.1), (8, .int z.2.1), (9, .int z.2.2)] → (∀ (H : Heap) (locs : List Loc) (ls : Array Slot), mH G (oset LX12 G q s0 h) s.heap H locs → lv_has ls 10 [(0, .ref (q 53)), (2, .long b2), (4, .int b4), (5, .int b5), (6, .long r)] → W p l e rm_X12_leaves s m args below meth c H locs 0 0 Q (F0 m 135 ls [])) → W p l e rm_X12_leaves s m args below meth c H locs 0 0 Q (F0 m 76 ls []) := by
  refine lpv_rec ?_
  intro z r x hF hx H locs ls hH hl K0
  obtain ⟨b6, b8, b9⟩ := z
  dsimp only [f_X12_leaves_76] at hF
  try dsimp only at hH hl
  refine lv_iload X.x X.b (dk DX12_leaves_0 43 rfl) (lv_at hl 6 rfl) ?_
  refine lv_aload_n X.x X.b (dk DX12_leaves_0 44 rfl) rfl (lv_at hl 0 rfl) ?_
  refine og_getI OX12 X hq hH 0 (by decide) rfl kF_X12_248 (dk DX12_leaves_0 45 rfl) ?_
  refine lv_icmp_ge (tgt := 135) X.x X.b (dk DX12_leaves_0 46 rfl) (by decide) (fun c17 => ?_) (fun c17 => ?_)
  · replace hF := if_t hF c17
    have hr9 := lp_r hF hx
    subst hr9
    exact K0 _ _ _ hH (lv_sub hl [0, 1, 2, 3, 4] rfl)
  · replace hF := if_f hF c17
    refine lv_lload_n X.x X.b (dk DX12_leaves_0 47 rfl) rfl (lv_at hl 1 rfl) ?_
    refine lv_iload X.x X.b (dk DX12_leaves_0 48 rfl) (lv_at hl 6 rfl) ?_
    obtain ⟨x18, e19, hF⟩ := bd hF
    refine mr_ci0 hH ⟨rfl, rfl⟩ (mr_runS (As := [.long b2, .int b9]) (rest := []) X hH (c_X12_has e19) kM_X12_232 kT_X12_has kN_X12 kC_X12_has hd_X12_has ⟨Nat.le_of_ble_eq_true rfl, Nat.le_of_ble_eq_true rfl⟩ rfl hl.1 (Nat.le_of_ble_eq_true rfl) (dk DX12_leaves_0 49 rfl) ⟨Nat.zero_le _, Nat.zero_le _⟩) (fun r h1 H locs hp hH => ?_)
    obtain ⟨hr1, hr2⟩ := hp; rw [hr1]; rw [hr2] at hH; clear hr1 hr2
    refine lv_if_ne (tgt := 97) X.x X.b (dk DX12_leaves_0 50 rfl) (by decide) (fun c20 => ?_) (fun c20 => ?_)
    · replace hF := if_f hF c20
      refine lv_lload X.x X.b (dk DX12_leaves_0 52 rfl) (lv_at hl 4 rfl) ?_
      refine lv_aload_n X.x X.b (dk DX12_leaves_0 53 rfl) rfl (lv_at hl 0 rfl) ?_
      refine og_getR (t := 1) OX12 X hq hH 3 (by decide) rfl kF_X12_7 (dk DX12_leaves_0 54 rfl) ?_
      refine lv_iload X.x X.b (dk DX12_leaves_0 55 rfl) (lv_at hl 3 rfl) ?_
      obtain ⟨c21, hF⟩ := gd hF
      refine og_lald X hq hH 3 (by decide) rfl (inb_in c21) (dk DX12_leaves_0 56 rfl) ?_
      refine lv_iload X.x X.b (dk DX12_leaves_0 57 rfl) (lv_at hl 6 rfl) ?_
      obtain ⟨x22, e23, hF⟩ := bd hF
      refine mr_ci0 hH ⟨rfl, rfl⟩ (mr_runS (As := [.long (s0.2.2.2 3 (b5 : Int32).toNatClampNeg), .int b9]) (rest := [.long b6]) X hH (c_X12_has e23) kM_X12_232 kT_X12_has kN_X12 kC_X12_has hd_X12_has ⟨Nat.le_of_ble_eq_true rfl, Nat.le_of_ble_eq_true rfl⟩ rfl hl.1 (Nat.le_of_ble_eq_true rfl) (dk DX12_leaves_0 58 rfl) ⟨Nat.zero_le _, Nat.zero_le _⟩) (fun r h1 H locs hp hH => ?_)
      obtain ⟨hr1, hr2⟩ := hp; rw [hr1]; rw [hr2] at hH; clear hr1 hr2
      refine lv_if_eq (tgt := 122) X.x X.b (dk DX12_leaves_0 59 rfl) (by decide) (fun c24 => ?_) (fun c24 => ?_)
      · replace hF := if_t hF c24
        refine lv_lconst (v := 0) X.x X.b (dk DX12_leaves_1 3 rfl) (by decide) ?_
        refine lv_lor X.x X.b (dk DX12_leaves_1 4 rfl) ?_
        refine lv_topl (fun v25 e26 => ?_)
        replace hF := bnd_e hF e26
        refine lv_lstore (lv' := [(6, .long v25), (0, .ref (q 53)), (2, .long b2), (4, .int b4), (5, .int b5), (8, .int b8), (9, .int b9)]) X.x X.b (dk DX12_leaves_1 5 rfl) hl (by decide) rfl (fun ls hl => ?_)
        replace hl : lv_has ls 10 [(0, .ref (q 53)), (2, .long b2), (4, .int b4), (5, .int b5), (6, .long v25), (8, .int b8), (9, .int b9)] := lv_sub hl [1, 2, 3, 4, 0, 5, 6] rfl
        obtain ⟨v27, e28⟩ : ∃ y : Int32, y = b8 + 1 := ⟨_, rfl⟩
        replace hF := bnd_e hF e28
        refine lv_iinc (v := v27) (lv' := [(8, .int v27), (0, .ref (q 53)), (2, .long b2), (4, .int b4), (5, .int b5), (6, .long v25), (9, .int b9)]) X.x X.b (dk DX12_leaves_1 6 rfl) hl (k := 5) rfl (by rw [e28]; rfl) (by decide) rfl (fun ls hl => ?_)
        replace hl : lv_has ls 10 [(0, .ref (q 53)), (2, .long b2), (4, .int b4), (5, .int b5), (6, .long v25), (8, .int v27), (9, .int b9)] := lv_sub hl [1, 2, 3, 4, 5, 0, 6] rfl
        obtain ⟨v29, e30⟩ : ∃ y : Int32, y = b9 + 1 := ⟨_, rfl⟩
        replace hF := bnd_e hF e30
        refine lv_iinc (v := v29) (lv' := [(9, .int v29), (0, .ref (q 53)), (2, .long b2), (4, .int b4), (5, .int b5), (6, .long v25), (8, .int v27)]) X.x X.b (dk DX12_leaves_1 7 rfl) hl (k := 6) rfl (by rw [e30]; rfl) (by decide) rfl (fun ls hl => ?_)
        replace hl : lv_has ls 10 [(0, .ref (q 53)), (2, .long b2), (4, .int b4), (5, .int b5), (6, .long v25), (8, .int v27), (9, .int v29)] := lv_sub hl [1, 2, 3, 4, 5, 6, 0] rfl
        refine lv_goto (tgt := 76) X.x X.b (dk DX12_leaves_1 8 rfl) (by decide) ?_
        exact (lp_l hF hx) _ _ _ hH (lv_sub hl [0, 1, 2, 3, 4, 5, 6] rfl) K0
      · replace hF := if_f hF c24
        refine lv_iload X.x X.b (dk DX12_leaves_1 0 rfl) (lv_at hl 5 rfl) ?_
        obtain ⟨x31, e32, hF⟩ := bd hF
        refine mr_cl0 hH ⟨rfl, rfl⟩ (mr_runS (As := [.int b8]) (rest := [.long b6]) X hH (c_X12_bit e32) kM_X12_111 kT_X12_bit kN_X12 kC_X12_bit hd_X12_bit ⟨Nat.le_of_ble_eq_true rfl, Nat.le_of_ble_eq_true rfl⟩ rfl hl.1 (Nat.le_of_ble_eq_true rfl) (dk DX12_leaves_1 1 rfl) ⟨Nat.zero_le _, Nat.zero_le _⟩) (fun r h1 H locs hp hH => ?_)
        obtain ⟨hr1, hr2⟩ := hp; rw [hr1]; rw [hr2] at hH; clear hr1 hr2
        refine lv_goto (tgt := 123) X.x X.b (dk DX12_leaves_1 2 rfl) (by decide) ?_
        refine lv_lor X.x X.b (dk DX12_leaves_1 4 rfl) ?_
        refine lv_topl (fun v33 e34 => ?_)
        replace hF := bnd_e hF e34
        refine lv_lstore (lv' := [(6, .long v33), (0, .ref (q 53)), (2, .long b2), (4, .int b4), (5, .int b5), (8, .int b8), (9, .int b9)]) X.x X.b (dk DX12_leaves_1 5 rfl) hl (by decide) rfl (fun ls hl => ?_)
        replace hl : lv_has ls 10 [(0, .ref (q 53)), (2, .long b2), (4, .int b4), (5, .int b5), (6, .long v33), (8, .int b8), (9, .int b9)] := lv_sub hl [1, 2, 3, 4, 0, 5, 6] rfl
        obtain ⟨v35, e36⟩ : ∃ y : Int32, y = b8 + 1 := ⟨_, rfl⟩
        replace hF := bnd_e hF e36
        refine lv_iinc (v := v35) (lv' := [(8, .int v35), (0, .ref (q 53)), (2, .long b2), (4, .int b4), (5, .int b5), (6, .long v33), (9, .int b9)]) X.x X.b (dk DX12_leaves_1 6 rfl) hl (k := 5) rfl (by rw [e36]; rfl) (by decide) rfl (fun ls hl => ?_)
        replace hl : lv_has ls 10 [(0, .ref (q 53)), (2, .long b2), (4, .int b4), (5, .int b5), (6, .long v33), (8, .int v35), (9, .int b9)] := lv_sub hl [1, 2, 3, 4, 5, 0, 6] rfl
        obtain ⟨v37, e38⟩ : ∃ y : Int32, y = b9 + 1 := ⟨_, rfl⟩
        replace hF := bnd_e hF e38
        refine lv_iinc (v := v37) (lv' := [(9, .int v37), (0, .ref (q 53)), (2, .long b2), (4, .int b4), (5, .int b5), (6, .long v33), (8, .int v35)]) X.x X.b (dk DX12_leaves_1 7 rfl) hl (k := 6) rfl (by rw [e38]; rfl) (by decide) rfl (fun ls hl => ?_)
        replace hl : lv_has ls 10 [(0, .ref (q 53)), (2, .long b2), (4, .int b4), (5, .int b5), (6, .long v33), (8, .int v35), (9, .int v37)] := lv_sub hl [1, 2, 3, 4, 5, 6, 0] rfl
        refine lv_goto (tgt := 76) X.x X.b (dk DX12_leaves_1 8 rfl) (by decide) ?_
        exact (lp_l hF hx) _ _ _ hH (lv_sub hl [0, 1, 2, 3, 4, 5, 6] rfl) K0
    · replace hF := if_t hF c20
      refine lv_goto (tgt := 129) X.x X.b (dk DX12_leaves_0 51 rfl) (by decide) ?_
      obtain ⟨v39, e40⟩ : ∃ y : Int32, y = b9 + 1 := ⟨_, rfl⟩
      replace hF := bnd_e hF e40
      refine lv_iinc (v := v39) (lv' := [(9, .int v39), (0, .ref (q 53)), (2, .long b2), (4, .int b4), (5, .int b5), (6, .long b6), (8, .int b8)]) X.x X.b (dk DX12_leaves_1 7 rfl) hl (k := 6) rfl (by rw [e40]; rfl) (by decide) rfl (fun ls hl => ?_)
      replace hl : lv_has ls 10 [(0, .ref (q 53)), (2, .long b2), (4, .int b4), (5, .int b5), (6, .long b6), (8, .int b8), (9, .int v39)] := lv_sub hl [1, 2, 3, 4, 5, 6, 0] rfl
      refine lv_goto (tgt := 76) X.x X.b (dk DX12_leaves_1 8 rfl) (by decide) ?_
      exact (lp_l hF hx) _ _ _ hH (lv_sub hl [0, 1, 2, 3, 4, 5, 6] rfl) K0
set_option maxHeartbeats 4000000 in
set_option maxRecDepth 100000 in
theorem w_X12_leaves_39 {p : Program} {l : Launch} {e : Env} {s : State} {m : MethodId} {args : Array Value} {below : List Frame} {meth : Method} {c : Code} {Q : State → Prop} {G : mG} {h : mM} {q : Nat → Nat} (hq : oinj LX12 q) (X : mX G p m c cX12_leaves 10 s args RX12) (b2 : Int64) : ∀ (z : OS × Int32 × Int32) (r : OS × Int32), lpv (f_X12_leaves_39 b2) z = some r → ∀ (H : Heap) (locs : List Loc) (ls : Array Slot), mH G (oset LX12 G q z.1 h) s.heap H locs → lv_has ls 10 [(0, .ref (q 53)), (2, .long b2), (4, .int z.2.1), (5, .int z.2.2)] → (∀ (H : Heap) (locs : List Loc) (ls : Array Slot), mH G (oset LX12 G q r.1 h) s.heap H locs → lv_has ls 10 [(0, .ref (q 53)), (2, .long b2), (4, .int r.2)] → W p l e rm_X12_leaves s m args below meth c H locs 0 0 Q (F0 m 153 ls [])) → W p l e rm_X12_leaves s m args below meth c H locs 0 0 Q (F0 m 39 ls []) := by
  refine lpv_rec ?_
  intro z r x hF hx H locs ls hH hl K0
  obtain ⟨s0, b4, b5⟩ := z
  dsimp only [f_X12_leaves_39] at hF
  try dsimp only at hH hl
  refine lv_iload X.x X.b (dk DX12_leaves_0 23 rfl) (lv_at hl 3 rfl) ?_
  refine lv_aload_n X.x X.b (dk DX12_leaves_0 24 rfl) rfl (lv_at hl 0 rfl) ?_
  refine og_getI OX12 X hq hH 1 (by decide) rfl kF_X12_250 (dk DX12_leaves_0 25 rfl) ?_
  refine lv_icmp_ge (tgt := 153) X.x X.b (dk DX12_leaves_0 26 rfl) (by decide) (fun c12 => ?_) (fun c12 => ?_)
  · replace hF := if_t hF c12
    have hr9 := lp_r hF hx
    subst hr9
    exact K0 _ _ _ hH (lv_sub hl [0, 1, 2] rfl)
  · replace hF := if_f hF c12
    refine lv_aload_n X.x X.b (dk DX12_leaves_0 27 rfl) rfl (lv_at hl 0 rfl) ?_
    refine og_getR (t := 1) OX12 X hq hH 3 (by decide) rfl kF_X12_7 (dk DX12_leaves_0 28 rfl) ?_
    refine lv_iload X.x X.b (dk DX12_leaves_0 29 rfl) (lv_at hl 3 rfl) ?_
    obtain ⟨c13, hF⟩ := gd hF
    refine og_lald X hq hH 3 (by decide) rfl (inb_in c13) (dk DX12_leaves_0 30 rfl) ?_
    refine lv_lload_n X.x X.b (dk DX12_leaves_0 31 rfl) rfl (lv_at hl 1 rfl) ?_
    refine lv_land X.x X.b (dk DX12_leaves_0 32 rfl) ?_
    obtain ⟨x14, e15, hF⟩ := bd hF
    refine mr_ci0 hH ⟨rfl, rfl⟩ (mr_runS (As := [.long ((s0.2.2.2 3 (b5 : Int32).toNatClampNeg) &&& b2)]) (rest := []) X hH (c_X12_ones e15) kM_X12_283 kT_X12_ones kN_X12 kC_X12_ones hd_X12_ones ⟨Nat.le_of_ble_eq_true rfl, Nat.le_of_ble_eq_true rfl⟩ rfl hl.1 (Nat.le_of_ble_eq_true rfl) (dk DX12_leaves_0 33 rfl) ⟨Nat.zero_le _, Nat.zero_le _⟩) (fun r h1 H locs hp hH => ?_)
    obtain ⟨hr1, hr2⟩ := hp; rw [hr1]; rw [hr2] at hH; clear hr1 hr2
    refine lv_iconst (v := 2) X.x X.b (dk DX12_leaves_0 34 rfl) (by decide) ?_
    refine lv_icmp_ge (tgt := 67) X.x X.b (dk DX12_leaves_0 35 rfl) (by decide) (fun c16 => ?_) (fun c16 => ?_)
    · replace hF := if_t hF c16
      refine lv_lconst (v := 0) X.x X.b (dk DX12_leaves_0 37 rfl) (by decide) ?_
      refine lv_lstore (lv' := [(6, .long 0), (0, .ref (q 53)), (2, .long b2), (4, .int b4), (5, .int b5)]) X.x X.b (dk DX12_leaves_0 38 rfl) hl (by decide) rfl (fun ls hl => ?_)
      replace hl : lv_has ls 10 [(0, .ref (q 53)), (2, .long b2), (4, .int b4), (5, .int b5), (6, .long 0)] := lv_sub hl [1, 2, 3, 4, 0] rfl
      refine lv_iconst (v := 0) X.x X.b (dk DX12_leaves_0 39 rfl) (by decide) ?_
      refine lv_istore (lv' := [(8, .int 0), (0, .ref (q 53)), (2, .long b2), (4, .int b4), (5, .int b5), (6, .long 0)]) X.x X.b (dk DX12_leaves_0 40 rfl) hl (by decide) rfl (fun ls hl => ?_)
      replace hl : lv_has ls 10 [(0, .ref (q 53)), (2, .long b2), (4, .int b4), (5, .int b5), (6, .long 0), (8, .int 0)] := lv_sub hl [1, 2, 3, 4, 5, 0] rfl
      refine lv_iconst (v := 0) X.x X.b (dk DX12_leaves_0 41 rfl) (by decide) ?_
      refine lv_istore (lv' := [(9, .int 0), (0, .ref (q 53)), (2, .long b2), (4, .int b4), (5, .int b5), (6, .long 0), (8, .int 0)]) X.x X.b (dk DX12_leaves_0 42 rfl) hl (by decide) rfl (fun ls hl => ?_)
      replace hl : lv_has ls 10 [(0, .ref (q 53)), (2, .long b2), (4, .int b4), (5, .int b5), (6, .long 0), (8, .int 0), (9, .int 0)] := lv_sub hl [1, 2, 3, 4, 5, 6, 0] rfl
      obtain ⟨x41, e42, hF⟩ := bd hF
      replace hl : lv_has ls 10 [(0, .ref (q 53)), (2, .long b2), (4, .int b4), (5, .int b5), (6, .long 0), (8, .int 0), (9, .int 0)] := lv_sub hl [0, 1, 2, 3, 4, 5, 6] rfl
      refine w_X12_leaves_76 hq X s0 b2 b4 b5 _ _ e42 _ _ _ hH hl (fun H locs ls hH hl => ?_)
      refine lv_aload_n X.x X.b (dk DX12_leaves_1 9 rfl) rfl (lv_at hl 0 rfl) ?_
      refine og_getR (t := 1) OX12 X hq hH 17 (by decide) rfl kF_X12_21 (dk DX12_leaves_1 10 rfl) ?_
      refine lv_iload X.x X.b (dk DX12_leaves_1 11 rfl) (lv_at hl 2 rfl) ?_
      refine lv_lload X.x X.b (dk DX12_leaves_1 12 rfl) (lv_at hl 4 rfl) ?_
      obtain ⟨c44, hF⟩ := gd hF
      refine og_last X hq hH 17 (by decide) rfl (inb_in c44) (dk DX12_leaves_1 13 rfl) (fun H locs hH => ?_)
      obtain ⟨t45, e46⟩ : ∃ y, y = oB s0 17 (vp_updL (s0.2.2.2 17) (b4 : Int32).toNatClampNeg x41) := ⟨_, rfl⟩
      rw [← e46] at hH
      replace hF := bnd_e hF e46
      obtain ⟨v47, e48⟩ : ∃ y : Int32, y = b4 + 1 := ⟨_, rfl⟩
      replace hF := bnd_e hF e48
      refine lv_iinc (v := v47) (lv' := [(4, .int v47), (0, .ref (q 53)), (2, .long b2), (5, .int b5), (6, .long x41)]) X.x X.b (dk DX12_leaves_1 14 rfl) hl (k := 2) rfl (by rw [e48]; rfl) (by decide) rfl (fun ls hl => ?_)
      replace hl : lv_has ls 10 [(0, .ref (q 53)), (2, .long b2), (4, .int v47), (5, .int b5)] := lv_sub hl [1, 2, 0, 3] rfl
      obtain ⟨v49, e50⟩ : ∃ y : Int32, y = b5 + 1 := ⟨_, rfl⟩
      replace hF := bnd_e hF e50
      refine lv_iinc (v := v49) (lv' := [(5, .int v49), (0, .ref (q 53)), (2, .long b2), (4, .int v47)]) X.x X.b (dk DX12_leaves_1 15 rfl) hl (k := 3) rfl (by rw [e50]; rfl) (by decide) rfl (fun ls hl => ?_)
      replace hl : lv_has ls 10 [(0, .ref (q 53)), (2, .long b2), (4, .int v47), (5, .int v49)] := lv_sub hl [1, 2, 3, 0] rfl
      refine lv_goto (tgt := 39) X.x X.b (dk DX12_leaves_1 16 rfl) (by decide) ?_
      exact (lp_l hF hx) _ _ _ hH (lv_sub hl [0, 1, 2, 3] rfl) K0
    · replace hF := if_f hF c16
      refine lv_goto (tgt := 147) X.x X.b (dk DX12_leaves_0 36 rfl) (by decide) ?_
      obtain ⟨v51, e52⟩ : ∃ y : Int32, y = b5 + 1 := ⟨_, rfl⟩
      replace hF := bnd_e hF e52
      refine lv_iinc (v := v51) (lv' := [(5, .int v51), (0, .ref (q 53)), (2, .long b2), (4, .int b4)]) X.x X.b (dk DX12_leaves_1 15 rfl) hl (k := 3) rfl (by rw [e52]; rfl) (by decide) rfl (fun ls hl => ?_)
      replace hl : lv_has ls 10 [(0, .ref (q 53)), (2, .long b2), (4, .int b4), (5, .int v51)] := lv_sub hl [1, 2, 3, 0] rfl
      refine lv_goto (tgt := 39) X.x X.b (dk DX12_leaves_1 16 rfl) (by decide) ?_
      exact (lp_l hF hx) _ _ _ hH (lv_sub hl [0, 1, 2, 3] rfl) K0
set_option maxHeartbeats 4000000 in
set_option maxRecDepth 100000 in
theorem w_X12_leaves_170 {p : Program} {l : Launch} {e : Env} {s : State} {m : MethodId} {args : Array Value} {below : List Frame} {meth : Method} {c : Code} {Q : State → Prop} {G : mG} {h : mM} {q : Nat → Nat} (hq : oinj LX12 q) (X : mX G p m c cX12_leaves 10 s args RX12) (b4 : Int32) : ∀ (z : OS × Int32) (r : OS), lpv (f_X12_leaves_170 b4) z = some r → ∀ (H : Heap) (locs : List Loc) (ls : Array Slot), mH G (oset LX12 G q z.1 h) s.heap H locs → lv_has ls 10 [(0, .ref (q 53)), (4, .int b4), (5, .int z.2)] → (∀ (H : Heap) (locs : List Loc) (ls : Array Slot), mH G (oset LX12 G q r h) s.heap H locs → lv_has ls 10 [] → W p l e rm_X12_leaves s m args below meth c H locs 0 0 Q (F0 m 197 ls [])) → W p l e rm_X12_leaves s m args below meth c H locs 0 0 Q (F0 m 170 ls []) := by
  refine lpv_rec ?_
  intro z r x hF hx H locs ls hH hl K0
  obtain ⟨s0, b5⟩ := z
  dsimp only [f_X12_leaves_170] at hF
  try dsimp only at hH hl
  refine lv_iload X.x X.b (dk DX12_leaves_1 26 rfl) (lv_at hl 2 rfl) ?_
  refine lv_iload X.x X.b (dk DX12_leaves_1 27 rfl) (lv_at hl 1 rfl) ?_
  refine lv_icmp_ge (tgt := 197) X.x X.b (dk DX12_leaves_1 28 rfl) (by decide) (fun c63 => ?_) (fun c63 => ?_)
  · replace hF := if_t hF c63
    have hr9 := lp_r hF hx
    subst hr9
    exact K0 _ _ _ hH (lv_sub hl [] rfl)
  · replace hF := if_f hF c63
    refine lv_aload_n X.x X.b (dk DX12_leaves_1 29 rfl) rfl (lv_at hl 0 rfl) ?_
    refine og_getR (t := 1) OX12 X hq hH 3 (by decide) rfl kF_X12_7 (dk DX12_leaves_1 30 rfl) ?_
    refine lv_iload X.x X.b (dk DX12_leaves_1 31 rfl) (lv_at hl 2 rfl) ?_
    refine lv_aload_n X.x X.b (dk DX12_leaves_1 32 rfl) rfl (lv_at hl 0 rfl) ?_
    refine og_getR (t := 1) OX12 X hq hH 17 (by decide) rfl kF_X12_21 (dk DX12_leaves_1 33 rfl) ?_
    refine lv_iload X.x X.b (dk DX12_leaves_1 34 rfl) (lv_at hl 2 rfl) ?_
    obtain ⟨c64, hF⟩ := gd hF
    refine og_lald X hq hH 17 (by decide) rfl (inb_in c64) (dk DX12_leaves_1 35 rfl) ?_
    refine og_last X hq hH 3 (by decide) rfl (inb_in c64) (dk DX12_leaves_1 36 rfl) (fun H locs hH => ?_)
    obtain ⟨t65, e66⟩ : ∃ y, y = oB s0 3 (vp_updL (s0.2.2.2 3) (b5 : Int32).toNatClampNeg (s0.2.2.2 17 (b5 : Int32).toNatClampNeg)) := ⟨_, rfl⟩
    rw [← e66] at hH
    replace hF := bnd_e hF e66
    obtain ⟨v67, e68⟩ : ∃ y : Int32, y = b5 + 1 := ⟨_, rfl⟩
    replace hF := bnd_e hF e68
    refine lv_iinc (v := v67) (lv' := [(5, .int v67), (0, .ref (q 53)), (4, .int b4)]) X.x X.b (dk DX12_leaves_1 37 rfl) hl (k := 2) rfl (by rw [e68]; rfl) (by decide) rfl (fun ls hl => ?_)
    replace hl : lv_has ls 10 [(0, .ref (q 53)), (4, .int b4), (5, .int v67)] := lv_sub hl [1, 2, 0] rfl
    refine lv_goto (tgt := 170) X.x X.b (dk DX12_leaves_1 38 rfl) (by decide) ?_
    exact (lp_l hF hx) _ _ _ hH (lv_sub hl [0, 1, 2] rfl) K0
set_option maxHeartbeats 4000000 in
set_option maxRecDepth 100000 in
theorem c_X12_leaves {l : Launch} {G : mG} {h : mM} {q : Nat → Nat} (hq : oinj LX12 q) {st : OS} {a0 : Int32} {x : OS} (hF : f_X12_leaves st a0 = some x) : cQ l G yX12_leaves cX12_leaves 10 none rm_X12_leaves [.ref (q 53), .int a0] (oset LX12 G q st h) (mQv G (fun h1 => h1 = oset LX12 G q x h)) := by
  refine mp_of (by decide +kernel) (Nat.le_of_ble_eq_true rfl) ?_
  intro p e s m below meth c X hr hlk hH hname ls hl
  dsimp only [f_X12_leaves] at hF
  replace hl : lv_has ls 10 [(0, .ref (q 53)), (1, .int a0)] := hl
  refine lv_aload_n X.x X.b (dk DX12_leaves_0 0 rfl) rfl (lv_at hl 0 rfl) ?_
  obtain ⟨x1, e2, hF⟩ := bd hF
  refine mr_cv0 hH ⟨rfl, rfl⟩ (mr_runV (As := []) (rest := []) X hH (c_X12_acts hq e2) ((oset_at hq (Nat.le_refl _) ohas_N).trans (congrArg some ocell_N)) OX12.1 kM_X12_417 kI_X12_acts kS_X12_acts kN_X12 kC_X12_acts hd_X12_acts ⟨Nat.le_of_ble_eq_true rfl, Nat.le_of_ble_eq_true rfl⟩ rfl hl.1 (Nat.le_of_ble_eq_true rfl) (dk DX12_leaves_0 1 rfl) ⟨Nat.zero_le _, Nat.zero_le _⟩) (fun h1 H locs hp hH => ?_)
  rw [hp] at hH; clear hp
  refine lv_aload_n X.x X.b (dk DX12_leaves_0 2 rfl) rfl (lv_at hl 0 rfl) ?_
  obtain ⟨x3, e4, hF⟩ := bd hF
  refine mr_cv0 hH ⟨rfl, rfl⟩ (mr_runV (As := []) (rest := []) X hH (c_X12_layNears hq e4) ((oset_at hq (Nat.le_refl _) ohas_N).trans (congrArg some ocell_N)) OX12.1 kM_X12_272 kI_X12_layNears kS_X12_layNears kN_X12 kC_X12_layNears hd_X12_layNears ⟨Nat.le_of_ble_eq_true rfl, Nat.le_of_ble_eq_true rfl⟩ rfl hl.1 (Nat.le_of_ble_eq_true rfl) (dk DX12_leaves_0 3 rfl) ⟨Nat.zero_le _, Nat.zero_le _⟩) (fun h1 H locs hp hH => ?_)
  rw [hp] at hH; clear hp
  refine lv_aload_n X.x X.b (dk DX12_leaves_0 4 rfl) rfl (lv_at hl 0 rfl) ?_
  obtain ⟨x5, e6, hF⟩ := bd hF
  refine mr_cl0 hH ⟨rfl, rfl⟩ (mr_runV (As := []) (rest := []) X hH (c_X12_all hq e6) ((oset_at hq (Nat.le_refl _) ohas_N).trans (congrArg some ocell_N)) OX12.1 kM_X12_259 kI_X12_all kS_X12_all kN_X12 kC_X12_all hd_X12_all ⟨Nat.le_of_ble_eq_true rfl, Nat.le_of_ble_eq_true rfl⟩ rfl hl.1 (Nat.le_of_ble_eq_true rfl) (dk DX12_leaves_0 5 rfl) ⟨Nat.zero_le _, Nat.zero_le _⟩) (fun r h1 H locs hp hH => ?_)
  obtain ⟨hr1, hr2⟩ := hp; rw [hr1]; rw [hr2] at hH; clear hr1 hr2
  refine lv_aload_n X.x X.b (dk DX12_leaves_0 6 rfl) rfl (lv_at hl 0 rfl) ?_
  refine og_getR (t := 1) OX12 X hq hH 20 (by decide) rfl kF_X12_30 (dk DX12_leaves_0 7 rfl) ?_
  refine lv_iload_n X.x X.b (dk DX12_leaves_0 8 rfl) rfl (lv_at hl 1 rfl) ?_
  obtain ⟨c7, hF⟩ := gd hF
  refine og_lald X hq hH 20 (by decide) rfl (inb_in c7) (dk DX12_leaves_0 9 rfl) ?_
  refine lv_ldc2 (v := (-1)) X.x X.b X.ow (X.ts _ kK_X12_109) (dk DX12_leaves_0 10 rfl) ?_
  refine lv_lxor X.x X.b (dk DX12_leaves_0 11 rfl) ?_
  refine lv_land X.x X.b (dk DX12_leaves_0 12 rfl) ?_
  refine lv_iload_n X.x X.b (dk DX12_leaves_0 13 rfl) rfl (lv_at hl 1 rfl) ?_
  obtain ⟨x8, e9, hF⟩ := bd hF
  refine mr_cl0 hH ⟨rfl, rfl⟩ (mr_runS (As := [.int a0]) (rest := [.long (x5 &&& ((x3.2.2.2 20 (a0 : Int32).toNatClampNeg) ^^^ ((-1))))]) X hH (c_X12_bit e9) kM_X12_111 kT_X12_bit kN_X12 kC_X12_bit hd_X12_bit ⟨Nat.le_of_ble_eq_true rfl, Nat.le_of_ble_eq_true rfl⟩ rfl hl.1 (Nat.le_of_ble_eq_true rfl) (dk DX12_leaves_0 14 rfl) ⟨Nat.zero_le _, Nat.zero_le _⟩) (fun r h1 H locs hp hH => ?_)
  obtain ⟨hr1, hr2⟩ := hp; rw [hr1]; rw [hr2] at hH; clear hr1 hr2
  refine lv_ldc2 (v := (-1)) X.x X.b X.ow (X.ts _ kK_X12_109) (dk DX12_leaves_0 15 rfl) ?_
  refine lv_lxor X.x X.b (dk DX12_leaves_0 16 rfl) ?_
  refine lv_land X.x X.b (dk DX12_leaves_0 17 rfl) ?_
  refine lv_topl (fun v10 e11 => ?_)
  replace hF := bnd_e hF e11
  refine lv_lstore_n (lv' := [(2, .long v10), (0, .ref (q 53)), (1, .int a0)]) X.x X.b (dk DX12_leaves_0 18 rfl) rfl hl (by decide) rfl (fun ls hl => ?_)
  replace hl : lv_has ls 10 [(0, .ref (q 53)), (2, .long v10)] := lv_sub hl [1, 0] rfl
  refine lv_iconst (v := 0) X.x X.b (dk DX12_leaves_0 19 rfl) (by decide) ?_
  refine lv_istore (lv' := [(4, .int 0), (0, .ref (q 53)), (2, .long v10)]) X.x X.b (dk DX12_leaves_0 20 rfl) hl (by decide) rfl (fun ls hl => ?_)
  replace hl : lv_has ls 10 [(0, .ref (q 53)), (2, .long v10), (4, .int 0)] := lv_sub hl [1, 2, 0] rfl
  refine lv_iconst (v := 0) X.x X.b (dk DX12_leaves_0 21 rfl) (by decide) ?_
  refine lv_istore (lv' := [(5, .int 0), (0, .ref (q 53)), (2, .long v10), (4, .int 0)]) X.x X.b (dk DX12_leaves_0 22 rfl) hl (by decide) rfl (fun ls hl => ?_)
  replace hl : lv_has ls 10 [(0, .ref (q 53)), (2, .long v10), (4, .int 0), (5, .int 0)] := lv_sub hl [1, 2, 3, 0] rfl
  obtain ⟨x53, e54, hF⟩ := bd hF
  replace hl : lv_has ls 10 [(0, .ref (q 53)), (2, .long v10), (4, .int 0), (5, .int 0)] := lv_sub hl [0, 1, 2, 3] rfl
  obtain ⟨t55, v56⟩ := x53
  try dsimp only at hF
  refine w_X12_leaves_39 hq X v10 _ _ e54 _ _ _ hH hl (fun H locs ls hH hl => ?_)
  try dsimp only at hH hl
  refine lv_aload_n X.x X.b (dk DX12_leaves_1 17 rfl) rfl (lv_at hl 0 rfl) ?_
  refine lv_lload_n X.x X.b (dk DX12_leaves_1 18 rfl) rfl (lv_at hl 1 rfl) ?_
  obtain ⟨x57, e58, hF⟩ := bd hF
  refine mr_ci0 hH ⟨rfl, rfl⟩ (mr_runS (As := [.long v10]) (rest := [.ref (q 53)]) X hH (c_X12_ones e58) kM_X12_283 kT_X12_ones kN_X12 kC_X12_ones hd_X12_ones ⟨Nat.le_of_ble_eq_true rfl, Nat.le_of_ble_eq_true rfl⟩ rfl hl.1 (Nat.le_of_ble_eq_true rfl) (dk DX12_leaves_1 19 rfl) ⟨Nat.zero_le _, Nat.zero_le _⟩) (fun r h1 H locs hp hH => ?_)
  obtain ⟨hr1, hr2⟩ := hp; rw [hr1]; rw [hr2] at hH; clear hr1 hr2
  refine og_putI OX12 X hq hH 0 (by decide) rfl kF_X12_248 rfl rfl rfl (dk DX12_leaves_1 20 rfl) (fun H locs hH => ?_)
  obtain ⟨t59, e60⟩ : ∃ y, y = oI t55 0 x57 := ⟨_, rfl⟩
  rw [← e60] at hH
  replace hF := bnd_e hF e60
  refine lv_aload_n X.x X.b (dk DX12_leaves_1 21 rfl) rfl (lv_at hl 0 rfl) ?_
  refine lv_iload X.x X.b (dk DX12_leaves_1 22 rfl) (lv_at hl 2 rfl) ?_
  refine og_putI OX12 X hq hH 1 (by decide) rfl kF_X12_250 rfl rfl rfl (dk DX12_leaves_1 23 rfl) (fun H locs hH => ?_)
  obtain ⟨t61, e62⟩ : ∃ y, y = oI t59 1 v56 := ⟨_, rfl⟩
  rw [← e62] at hH
  replace hF := bnd_e hF e62
  refine lv_iconst (v := 0) X.x X.b (dk DX12_leaves_1 24 rfl) (by decide) ?_
  refine lv_istore (lv' := [(5, .int 0), (0, .ref (q 53)), (2, .long v10), (4, .int v56)]) X.x X.b (dk DX12_leaves_1 25 rfl) hl (by decide) rfl (fun ls hl => ?_)
  replace hl : lv_has ls 10 [(0, .ref (q 53)), (4, .int v56), (5, .int 0)] := lv_sub hl [1, 3, 0] rfl
  obtain ⟨x69, e70, hF⟩ := bd hF
  replace hl : lv_has ls 10 [(0, .ref (q 53)), (4, .int v56), (5, .int 0)] := lv_sub hl [0, 1, 2] rfl
  refine w_X12_leaves_170 hq X v56 _ _ e70 _ _ _ hH hl (fun H locs ls hH hl => ?_)
  cases sm hF
  exact mr_vret X hr hlk hH rfl (dk DX12_leaves_1 39 rfl)
-- X12_left
abbrev rm_X12_left : Room := { frames := 4, cells := 0, slots := 0, locals := 96 }
theorem hd_X12_left : mHd yX12_left 1 := ⟨by decide +kernel, by decide +kernel, by decide +kernel⟩
theorem DX12_left_0 : ∀ t ∈ ([(0, .aload_n 0, 1), (1, .iconst 0, 1), (2, .putfield 106, 3), (5, .aload_n 0, 1), (6, .iload_n 1, 1), (7, .invokevirtual 266, 3), (10, .ifCond .ne 9, 3), (13, .aload_n 0, 1), (14, .iconst 1, 1), (15, .invokevirtual 236, 3), (18, .ireturn, 1), (19, .aload_n 0, 1), (20, .iload_n 1, 1), (21, .invokevirtual 429, 3), (24, .aload_n 0, 1), (25, .getfield 248, 3), (28, .ireturn, 1)] : List (Nat × Instr × Nat)), decode cX12_left t.1 = .ok (t.2.1, t.2.2) := by decide +kernel
noncomputable def f_X12_left (st : OS) (a0 : Int32) : Option (Int32 × OS) := bnd (oI st 2 0) (fun t1 => (f_X12_isPoint t1 a0).bind (fun x3 => (if x3 = 0 then (f_X12_fails t1 1).bind (fun x8 => match x8 with | (v11, t10) => some ((v11, t10))) else (f_X12_leaves t1 a0).bind (fun x6 => some ((x6.1 0, x6))))))
set_option maxHeartbeats 4000000 in
set_option maxRecDepth 100000 in
theorem c_X12_left {l : Launch} {G : mG} {h : mM} {q : Nat → Nat} (hq : oinj LX12 q) {st : OS} {a0 : Int32} {x : Int32 × OS} (hF : f_X12_left st a0 = some x) : cQ l G yX12_left cX12_left 2 (some FieldType.int) rm_X12_left [.ref (q 53), .int a0] (oset LX12 G q st h) (mQi G (fun r h1 => r = x.1 ∧ h1 = oset LX12 G q x.2 h)) := by
  refine mp_of (by decide +kernel) (Nat.le_of_ble_eq_true rfl) ?_
  intro p e s m below meth c X hr hlk hH hname ls hl
  dsimp only [f_X12_left] at hF
  replace hl : lv_has ls 2 [(0, .ref (q 53)), (1, .int a0)] := hl
  refine lv_aload_n X.x X.b (dk DX12_left_0 0 rfl) rfl (lv_at hl 0 rfl) ?_
  refine lv_iconst (v := 0) X.x X.b (dk DX12_left_0 1 rfl) (by decide) ?_
  refine og_putI OX12 X hq hH 2 (by decide) rfl kF_X12_106 rfl rfl rfl (dk DX12_left_0 2 rfl) (fun H locs hH => ?_)
  obtain ⟨t1, e2⟩ : ∃ y, y = oI st 2 0 := ⟨_, rfl⟩
  rw [← e2] at hH
  replace hF := bnd_e hF e2
  refine lv_aload_n X.x X.b (dk DX12_left_0 3 rfl) rfl (lv_at hl 0 rfl) ?_
  refine lv_iload_n X.x X.b (dk DX12_left_0 4 rfl) rfl (lv_at hl 1 rfl) ?_
  obtain ⟨x3, e4, hF⟩ := bd hF
  refine mr_ci0 hH ⟨rfl, rfl⟩ (mr_runV (As := [.int a0]) (rest := []) X hH (c_X12_isPoint hq e4) ((oset_at hq (Nat.le_refl _) ohas_N).trans (congrArg some ocell_N)) OX12.1 kM_X12_266 kI_X12_isPoint kS_X12_isPoint kN_X12 kC_X12_isPoint hd_X12_isPoint ⟨Nat.le_of_ble_eq_true rfl, Nat.le_of_ble_eq_true rfl⟩ rfl hl.1 (Nat.le_of_ble_eq_true rfl) (dk DX12_left_0 5 rfl) ⟨Nat.zero_le _, Nat.zero_le _⟩) (fun r h1 H locs hp hH => ?_)
  obtain ⟨hr1, hr2⟩ := hp; rw [hr1]; rw [hr2] at hH; clear hr1 hr2
  refine lv_if_ne (tgt := 19) X.x X.b (dk DX12_left_0 6 rfl) (by decide) (fun c5 => ?_) (fun c5 => ?_)
  · replace hF := if_f hF c5
    refine lv_aload_n X.x X.b (dk DX12_left_0 11 rfl) rfl (lv_at hl 0 rfl) ?_
    refine lv_iload_n X.x X.b (dk DX12_left_0 12 rfl) rfl (lv_at hl 1 rfl) ?_
    obtain ⟨x6, e7, hF⟩ := bd hF
    refine mr_cv0 hH ⟨rfl, rfl⟩ (mr_runV (As := [.int a0]) (rest := []) X hH (c_X12_leaves hq e7) ((oset_at hq (Nat.le_refl _) ohas_N).trans (congrArg some ocell_N)) OX12.1 kM_X12_429 kI_X12_leaves kS_X12_leaves kN_X12 kC_X12_leaves hd_X12_leaves ⟨Nat.le_of_ble_eq_true rfl, Nat.le_of_ble_eq_true rfl⟩ rfl hl.1 (Nat.le_of_ble_eq_true rfl) (dk DX12_left_0 13 rfl) ⟨Nat.zero_le _, Nat.zero_le _⟩) (fun h1 H locs hp hH => ?_)
    rw [hp] at hH; clear hp
    refine lv_aload_n X.x X.b (dk DX12_left_0 14 rfl) rfl (lv_at hl 0 rfl) ?_
    refine og_getI OX12 X hq hH 0 (by decide) rfl kF_X12_248 (dk DX12_left_0 15 rfl) ?_
    cases sm hF
    exact mr_iret X hr hlk hH ⟨rfl, rfl⟩ (dk DX12_left_0 16 rfl)
  · replace hF := if_t hF c5
    refine lv_aload_n X.x X.b (dk DX12_left_0 7 rfl) rfl (lv_at hl 0 rfl) ?_
    refine lv_iconst (v := 1) X.x X.b (dk DX12_left_0 8 rfl) (by decide) ?_
    obtain ⟨x8, e9, hF⟩ := bd hF
    refine mr_ci0 hH ⟨rfl, rfl⟩ (mr_runV (As := [.int 1]) (rest := []) X hH (c_X12_fails hq e9) ((oset_at hq (Nat.le_refl _) ohas_N).trans (congrArg some ocell_N)) OX12.1 kM_X12_236 kI_X12_fails kS_X12_fails kN_X12 kC_X12_fails hd_X12_fails ⟨Nat.le_of_ble_eq_true rfl, Nat.le_of_ble_eq_true rfl⟩ rfl hl.1 (Nat.le_of_ble_eq_true rfl) (dk DX12_left_0 9 rfl) ⟨Nat.zero_le _, Nat.zero_le _⟩) (fun r h1 H locs hp hH => ?_)
    obtain ⟨hr1, hr2⟩ := hp; rw [hr1]; rw [hr2] at hH; clear hr1 hr2
    obtain ⟨v11, t10⟩ := x8
    try dsimp only at hF hH ⊢
    cases sm hF
    exact mr_iret X hr hlk hH ⟨rfl, rfl⟩ (dk DX12_left_0 10 rfl)
