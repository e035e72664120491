-- X12_ovoid
abbrev rm_X12_ovoid : Room := { frames := 72, cells := 0, slots := 0, locals := 1797 }
theorem hd_X12_ovoid : mHd yX12_ovoid 0 := ⟨by decide +kernel, by decide +kernel, by decide +kernel⟩
theorem DX12_ovoid_0 : ∀ t ∈ ([(0, .aload_n 0, 1), (1, .iconst 0, 1), (2, .putfield 106, 3), (5, .aload_n 0, 1), (6, .invokevirtual 329, 3), (9, .aload_n 0, 1), (10, .lconst 0, 1), (11, .iconst 1, 1), (12, .invokevirtual 325, 3), (15, .aload_n 0, 1), (16, .getfield 309, 3), (19, .ifCond .eq 9, 3), (22, .ldc2_w 332, 3), (25, .goto 7, 3), (28, .aload_n 0, 1), (29, .getfield 313, 3), (32, .lreturn, 1)] : List (Nat × Instr × Nat)), decode cX12_ovoid t.1 = .ok (t.2.1, t.2.2) := by decide +kernel
noncomputable def f_X12_ovoid (st : OS) : Option (Int64 × OS) := bnd (oI st 2 0) (fun t1 => (f_X12_begins t1).bind (fun x3 => (f_X12_ovoidsFrom 70 x3 0 1).bind (fun x6 => (if (x6.1 23) = 0 then some ((x6.2.1 24, x6)) else some (((-2), x6))))))
set_option maxHeartbeats 4000000 in
set_option maxRecDepth 100000 in
theorem c_X12_ovoid {l : Launch} {G : mG} {h : mM} {q : Nat → Nat} (hq : oinj LX12 q) {st : OS} {x : Int64 × OS} (hF : f_X12_ovoid st = some x) : cQ l G yX12_ovoid cX12_ovoid 1 (some FieldType.long) rm_X12_ovoid [.ref (q 53)] (oset LX12 G q st h) (mQl G (fun r h1 => r = x.1 ∧ h1 = oset LX12 G q x.2 h)) := by
  refine mp_of (by decide +kernel) (Nat.le_of_ble_eq_true rfl) ?_
  intro p e s m below meth c X hr hlk hH hname ls hl
  dsimp only [f_X12_ovoid] at hF
  replace hl : lv_has ls 1 [(0, .ref (q 53))] := hl
  refine lv_aload_n X.x X.b (dk DX12_ovoid_0 0 rfl) rfl (lv_at hl 0 rfl) ?_
  refine lv_iconst (v := 0) X.x X.b (dk DX12_ovoid_0 1 rfl) (by decide) ?_
  refine og_putI OX12 X hq hH 2 (by decide) rfl kF_X12_106 rfl rfl rfl (dk DX12_ovoid_0 2 rfl) (fun H locs hH => ?_)
  obtain ⟨t1, e2⟩ : ∃ y, y = oI st 2 0 := ⟨_, rfl⟩
  rw [← e2] at hH
  replace hF := bnd_e hF e2
  refine lv_aload_n X.x X.b (dk DX12_ovoid_0 3 rfl) rfl (lv_at hl 0 rfl) ?_
  obtain ⟨x3, e4, hF⟩ := bd hF
  refine mr_cv0 hH ⟨rfl, rfl⟩ (mr_runV (As := []) (rest := []) X hH (c_X12_begins hq e4) ((oset_at hq (Nat.le_refl _) ohas_N).trans (congrArg some ocell_N)) OX12.1 kM_X12_329 kI_X12_begins kS_X12_begins kN_X12 kC_X12_begins hd_X12_begins ⟨Nat.le_of_ble_eq_true rfl, Nat.le_of_ble_eq_true rfl⟩ rfl hl.1 (Nat.le_of_ble_eq_true rfl) (dk DX12_ovoid_0 4 rfl) ⟨Nat.zero_le _, Nat.zero_le _⟩) (fun h1 H locs hp hH => ?_)
  rw [hp] at hH; clear hp
  refine lv_aload_n X.x X.b (dk DX12_ovoid_0 5 rfl) rfl (lv_at hl 0 rfl) ?_
  refine lv_lconst (v := 0) X.x X.b (dk DX12_ovoid_0 6 rfl) (by decide) ?_
  refine lv_iconst (v := 1) X.x X.b (dk DX12_ovoid_0 7 rfl) (by decide) ?_
  obtain ⟨x6, e7, hF⟩ := bd hF
  refine mr_cv0 hH ⟨rfl, rfl⟩ (mr_runV (As := [.long 0, .int 1]) (rest := []) X hH (c_X12_ovoidsFrom hq 70 x3 0 1 _ e7) ((oset_at hq (Nat.le_refl _) ohas_N).trans (congrArg some ocell_N)) OX12.1 kM_X12_325 kI_X12_ovoidsFrom kS_X12_ovoidsFrom kN_X12 kC_X12_ovoidsFrom hd_X12_ovoidsFrom ⟨Nat.le_of_ble_eq_true rfl, Nat.le_of_ble_eq_true rfl⟩ rfl hl.1 (Nat.le_of_ble_eq_true rfl) (dk DX12_ovoid_0 8 rfl) ⟨Nat.zero_le _, Nat.zero_le _⟩) (fun h1 H locs hp hH => ?_)
  rw [hp] at hH; clear hp
  refine lv_aload_n X.x X.b (dk DX12_ovoid_0 9 rfl) rfl (lv_at hl 0 rfl) ?_
  refine og_getI OX12 X hq hH 23 (by decide) rfl kF_X12_309 (dk DX12_ovoid_0 10 rfl) ?_
  refine lv_if_eq (tgt := 28) X.x X.b (dk DX12_ovoid_0 11 rfl) (by decide) (fun c9 => ?_) (fun c9 => ?_)
  · replace hF := if_t hF c9
    refine lv_aload_n X.x X.b (dk DX12_ovoid_0 14 rfl) rfl (lv_at hl 0 rfl) ?_
    refine og_getJ OX12 X hq hH 24 (by decide) rfl kF_X12_313 (dk DX12_ovoid_0 15 rfl) ?_
    cases sm hF
    exact mr_lret X hr hlk hH ⟨rfl, rfl⟩ (dk DX12_ovoid_0 16 rfl)
  · replace hF := if_f hF c9
    refine lv_ldc2 (v := (-2)) X.x X.b X.ow (X.ts _ kK_X12_332) (dk DX12_ovoid_0 12 rfl) ?_
    refine lv_goto (tgt := 32) X.x X.b (dk DX12_ovoid_0 13 rfl) (by decide) ?_
    cases sm hF
    exact mr_lret X hr hlk hH ⟨rfl, rfl⟩ (dk DX12_ovoid_0 16 rfl)
-- X12_ovoids
abbrev rm_X12_ovoids : Room := { frames := 72, cells := 0, slots := 0, locals := 1797 }
theorem hd_X12_ovoids : mHd yX12_ovoids 0 := ⟨by decide +kernel, by decide +kernel, by decide +kernel⟩
theorem DX12_ovoids_0 : ∀ t ∈ ([(0, .aload_n 0, 1), (1, .iconst 0, 1), (2, .putfield 106, 3), (5, .aload_n 0, 1), (6, .invokevirtual 329, 3), (9, .aload_n 0, 1), (10, .lconst 0, 1), (11, .iconst 0, 1), (12, .invokevirtual 325, 3), (15, .aload_n 0, 1), (16, .getfield 309, 3), (19, .ifCond .eq 8, 3), (22, .bipush (-2), 2), (24, .goto 7, 3), (27, .aload_n 0, 1), (28, .getfield 306, 3), (31, .ireturn, 1)] : List (Nat × Instr × Nat)), decode cX12_ovoids t.1 = .ok (t.2.1, t.2.2) := by decide +kernel
noncomputable def f_X12_ovoids (st : OS) : Option (Int32 × OS) := bnd (oI st 2 0) (fun t1 => (f_X12_begins t1).bind (fun x3 => (f_X12_ovoidsFrom 70 x3 0 0).bind (fun x6 => (if (x6.1 23) = 0 then some ((x6.1 22, x6)) else some (((-2), x6))))))
set_option maxHeartbeats 4000000 in
set_option maxRecDepth 100000 in
theorem c_X12_ovoids {l : Launch} {G : mG} {h : mM} {q : Nat → Nat} (hq : oinj LX12 q) {st : OS} {x : Int32 × OS} (hF : f_X12_ovoids st = some x) : cQ l G yX12_ovoids cX12_ovoids 1 (some FieldType.int) rm_X12_ovoids [.ref (q 53)] (oset LX12 G q st h) (mQi G (fun r h1 => r = x.1 ∧ h1 = oset LX12 G q x.2 h)) := by
  refine mp_of (by decide +kernel) (Nat.le_of_ble_eq_true rfl) ?_
  intro p e s m below meth c X hr hlk hH hname ls hl
  dsimp only [f_X12_ovoids] at hF
  replace hl : lv_has ls 1 [(0, .ref (q 53))] := hl
  refine lv_aload_n X.x X.b (dk DX12_ovoids_0 0 rfl) rfl (lv_at hl 0 rfl) ?_
  refine lv_iconst (v := 0) X.x X.b (dk DX12_ovoids_0 1 rfl) (by decide) ?_
  refine og_putI OX12 X hq hH 2 (by decide) rfl kF_X12_106 rfl rfl rfl (dk DX12_ovoids_0 2 rfl) (fun H locs hH => ?_)
  obtain ⟨t1, e2⟩ : ∃ y, y = oI st 2 0 := ⟨_, rfl⟩
  rw [← e2] at hH
  replace hF := bnd_e hF e2
  refine lv_aload_n X.x X.b (dk DX12_ovoids_0 3 rfl) rfl (lv_at hl 0 rfl) ?_
  obtain ⟨x3, e4, hF⟩ := bd hF
  refine mr_cv0 hH ⟨rfl, rfl⟩ (mr_runV (As := []) (rest := []) X hH (c_X12_begins hq e4) ((oset_at hq (Nat.le_refl _) ohas_N).trans (congrArg some ocell_N)) OX12.1 kM_X12_329 kI_X12_begins kS_X12_begins kN_X12 kC_X12_begins hd_X12_begins ⟨Nat.le_of_ble_eq_true rfl, Nat.le_of_ble_eq_true rfl⟩ rfl hl.1 (Nat.le_of_ble_eq_true rfl) (dk DX12_ovoids_0 4 rfl) ⟨Nat.zero_le _, Nat.zero_le _⟩) (fun h1 H locs hp hH => ?_)
  rw [hp] at hH; clear hp
  refine lv_aload_n X.x X.b (dk DX12_ovoids_0 5 rfl) rfl (lv_at hl 0 rfl) ?_
  refine lv_lconst (v := 0) X.x X.b (dk DX12_ovoids_0 6 rfl) (by decide) ?_
  refine lv_iconst (v := 0) X.x X.b (dk DX12_ovoids_0 7 rfl) (by decide) ?_
  obtain ⟨x6, e7, hF⟩ := bd hF
  refine mr_cv0 hH ⟨rfl, rfl⟩ (mr_runV (As := [.long 0, .int 0]) (rest := []) X hH (c_X12_ovoidsFrom hq 70 x3 0 0 _ e7) ((oset_at hq (Nat.le_refl _) ohas_N).trans (congrArg some ocell_N)) OX12.1 kM_X12_325 kI_X12_ovoidsFrom kS_X12_ovoidsFrom kN_X12 kC_X12_ovoidsFrom hd_X12_ovoidsFrom ⟨Nat.le_of_ble_eq_true rfl, Nat.le_of_ble_eq_true rfl⟩ rfl hl.1 (Nat.le_of_ble_eq_true rfl) (dk DX12_ovoids_0 8 rfl) ⟨Nat.zero_le _, Nat.zero_le _⟩) (fun h1 H locs hp hH => ?_)
  rw [hp] at hH; clear hp
  refine lv_aload_n X.x X.b (dk DX12_ovoids_0 9 rfl) rfl (lv_at hl 0 rfl) ?_
  refine og_getI OX12 X hq hH 23 (by decide) rfl kF_X12_309 (dk DX12_ovoids_0 10 rfl) ?_
  refine lv_if_eq (tgt := 27) X.x X.b (dk DX12_ovoids_0 11 rfl) (by decide) (fun c9 => ?_) (fun c9 => ?_)
  · replace hF := if_t hF c9
    refine lv_aload_n X.x X.b (dk DX12_ovoids_0 14 rfl) rfl (lv_at hl 0 rfl) ?_
    refine og_getI OX12 X hq hH 22 (by decide) rfl kF_X12_306 (dk DX12_ovoids_0 15 rfl) ?_
    cases sm hF
    exact mr_iret X hr hlk hH ⟨rfl, rfl⟩ (dk DX12_ovoids_0 16 rfl)
  · replace hF := if_f hF c9
    refine lv_bipush (v := (-2)) X.x X.b (dk DX12_ovoids_0 12 rfl) (by decide) ?_
    refine lv_goto (tgt := 31) X.x X.b (dk DX12_ovoids_0 13 rfl) (by decide) ?_
    cases sm hF
    exact mr_iret X hr hlk hH ⟨rfl, rfl⟩ (dk DX12_ovoids_0 16 rfl)
-- X12_spreadsFrom
abbrev rm_X12_spreadsFrom (d : Nat) : Room := { frames := 1 + d, cells := 0, slots := 0, locals := 22 + d * 27 }
theorem hd_X12_spreadsFrom : mHd yX12_spreadsFrom 3 := ⟨by decide +kernel, by decide +kernel, by decide +kernel⟩
theorem DX12_spreadsFrom_0 : ∀ t ∈ ([(0, .iconst 0, 1), (1, .istore 6, 2), (3, .iload 6, 2), (5, .aload_n 0, 1), (6, .getfield 248, 3), (9, .if_icmp .ge 18, 3), (12, .lload_n 3, 1), (13, .iload 6, 2), (15, .invokestatic 232, 3), (18, .ifCond .eq 9, 3), (21, .iinc 6 1, 3), (24, .goto (-21), 3), (27, .iload 6, 2), (29, .aload_n 0, 1), (30, .getfield 248, 3), (33, .if_icmp .ne 9, 3), (36, .aload_n 0, 1), (37, .lload_n 1, 1), (38, .invokevirtual 318, 3), (41, .return_, 1), (42, .iconst 0, 1), (43, .istore 7, 2), (45, .iload 7, 2), (47, .aload_n 0, 1), (48, .getfield 250, 3), (51, .if_icmp .ge 86, 3), (54, .aload_n 0, 1), (55, .getfield 309, 3), (58, .ifCond .ne 79, 3), (61, .iload 5, 2), (63, .ifCond .eq 10, 3), (66, .aload_n 0, 1), (67, .getfield 306, 3), (70, .ifCond .gt 67, 3), (73, .aload_n 0, 1), (74, .getfield 7, 3), (77, .iload 7, 2), (79, .laload, 1), (80, .iload 6, 2), (82, .invokestatic 232, 3), (85, .ifCond .eq 46, 3), (88, .aload_n 0, 1), (89, .getfield 7, 3), (92, .iload 7, 2), (94, .laload, 1), (95, .lload_n 3, 1), (96, .land, 1), (97, .lconst 0, 1), (98, .lcmp, 1), (99, .ifCond .ne 32, 3), (102, .aload_n 0, 1), (103, .invokevirtual 321, 3), (106, .ifCond .eq 25, 3), (109, .aload_n 0, 1), (110, .lload_n 1, 1), (111, .iload 7, 2), (113, .invokestatic 111, 3), (116, .lor, 1), (117, .lload_n 3, 1), (118, .aload_n 0, 1)] : List (Nat × Instr × Nat)), decode cX12_spreadsFrom t.1 = .ok (t.2.1, t.2.2) := by decide +kernel
theorem DX12_spreadsFrom_1 : ∀ t ∈ ([(119, .getfield 7, 3), (122, .iload 7, 2), (124, .laload, 1), (125, .lor, 1), (126, .iload 5, 2), (128, .invokevirtual 334, 3), (131, .iinc 7 1, 3), (134, .goto (-89), 3), (137, .return_, 1)] : List (Nat × Instr × Nat)), decode cX12_spreadsFrom t.1 = .ok (t.2.1, t.2.2) := by decide +kernel
noncomputable def f_X12_spreadsFrom_3 (rec : OS → Int64 → Int64 → Int32 → Option (OS)) (s_t : OS) (b1 : Int64) (b3 : Int64) (b5 : Int32) : Int32 → Option ((Int32) ⊕ (Int32)) := fun b6 => (if (s_t.1 0) ≤ b6 then some (.inr b6) else (f_X12_has b3 b6).bind (fun x2 => (if x2 = 0 then some (.inr b6) else bnd (b6 + 1 : Int32) (fun v6 => some (.inl v6)))))
noncomputable def f_X12_spreadsFrom_45 (rec : OS → Int64 → Int64 → Int32 → Option (OS)) (b1 : Int64) (b3 : Int64) (b5 : Int32) (b6 : Int32) : (OS × Int32) → Option ((OS × Int32) ⊕ (OS)) := fun z => match z with | (s_t, b7) => (if (s_t.1 1) ≤ b7 then some (.inr s_t) else (if (s_t.1 23) = 0 then (if b5 = 0 then if inb b7 64 = true then (f_X12_has (s_t.2.2.2 3 (b7 : Int32).toNatClampNeg) b6).bind (fun x16 => (if x16 = 0 then bnd (b7 + 1 : Int32) (fun v20 => some (.inl ((s_t, v20)))) else (if (lg_cmp ((s_t.2.2.2 3 (b7 : Int32).toNatClampNeg) &&& b3) 0) = 0 then (f_X12_mayTry s_t).bind (fun x25 => match x25 with | (v27, t28) => (if v27 = 0 then bnd (b7 + 1 : Int32) (fun v30 => some (.inl ((t28, v30)))) else (f_X12_bit b7).bind (fun x32 => (rec t28 (b1 ||| x32) (b3 ||| (t28.2.2.2 3 (b7 : Int32).toNatClampNeg)) b5).bind (fun x35 => bnd (b7 + 1 : Int32) (fun v38 => some (.inl ((x35, v38)))))))) else bnd (b7 + 1 : Int32) (fun v23 => some (.inl ((s_t, v23))))))) else none else (if 0 < (s_t.1 22) then some (.inr s_t) else if inb b7 64 = true then (f_X12_has (s_t.2.2.2 3 (b7 : Int32).toNatClampNeg) b6).bind (fun x42 => (if x42 = 0 then bnd (b7 + 1 : Int32) (fun v46 => some (.inl ((s_t, v46)))) else (if (lg_cmp ((s_t.2.2.2 3 (b7 : Int32).toNatClampNeg) &&& b3) 0) = 0 then (f_X12_mayTry s_t).bind (fun x51 => match x51 with | (v53, t54) => (if v53 = 0 then bnd (b7 + 1 : Int32) (fun v56 => some (.inl ((t54, v56)))) else (f_X12_bit b7).bind (fun x58 => (rec t54 (b1 ||| x58) (b3 ||| (t54.2.2.2 3 (b7 : Int32).toNatClampNeg)) b5).bind (fun x61 => bnd (b7 + 1 : Int32) (fun v64 => some (.inl ((x61, v64)))))))) else bnd (b7 + 1 : Int32) (fun v49 => some (.inl ((s_t, v49))))))) else none)) else some (.inr s_t)))
noncomputable def f_X12_spreadsFrom_T (rec : OS → Int64 → Int64 → Int32 → Option (OS)) (st : OS) (a0 : Int64) (a1 : Int64) (a2 : Int32) : Option (OS) := (lpv (f_X12_spreadsFrom_3 rec st a0 a1 a2) 0).bind (fun x8 => (if x8 = (st.1 0) then (f_X12_finds st a0).bind (fun x69 => some x69) else (lpv (f_X12_spreadsFrom_45 rec a0 a1 a2 x8) ((st, 0))).bind (fun x66 => some x66)))
noncomputable def f_X12_spreadsFrom : Nat → OS → Int64 → Int64 → Int32 → Option (OS)
  | 0 => fun _ _ _ _ => none
  | d + 1 => f_X12_spreadsFrom_T (f_X12_spreadsFrom d)
set_option maxHeartbeats 4000000 in
set_option maxRecDepth 100000 in
theorem w_X12_spreadsFrom_3 {p : Program} {l : Launch} {e : Env} {s : State} {m : MethodId} {args : Array Value} {below : List Frame} {meth : Method} {c : Code} {Q : State → Prop} {G : mG} {h : mM} {q : Nat → Nat} (hq : oinj LX12 q) {d : Nat} {rec : OS → Int64 → Int64 → Int32 → Option (OS)} (ih : ∀ (st : OS) (a0 : Int64) (a1 : Int64) (a2 : Int32) (x : OS), rec st a0 a1 a2 = some x → cQ l G yX12_spreadsFrom cX12_spreadsFrom 8 none (rm_X12_spreadsFrom d) [.ref (q 53), .long a0, .long a1, .int a2] (oset LX12 G q st h) (mQv G (fun h1 => h1 = oset LX12 G q x h))) (X : mX G p m c cX12_spreadsFrom 8 s args RX12) (s_t : OS) (b1 : Int64) (b3 : Int64) (b5 : Int32) : ∀ (z : Int32) (r : Int32), lpv (f_X12_spreadsFrom_3 rec s_t b1 b3 b5) z = some r → ∀ (H : Heap) (locs : List Loc) (ls : Array Slot), mH G (oset LX12 G q s_t h) s.heap H locs → lv_has ls 8 [(0, .ref (q 53)), (1, .long b1), (3, .long b3), (5, .int b5), (6, .int z)] → (∀ (H : Heap) (locs : List Loc) (ls : Array Slot), mH G (oset LX12 G q s_t h) s.heap H locs → lv_has ls 8 [(0, .ref (q 53)), (1, .long b1), (3, .long b3), (5, .int b5), (6, .int r)] → W p l e (rm_X12_spreadsFrom (d + 1)) s m args below meth c H locs 0 0 Q (F0 m 27 ls [])) → W p l e (rm_X12_spreadsFrom (d + 1)) s m args below meth c H locs 0 0 Q (F0 m 3 ls []) := by
  refine lpv_rec ?_
  intro z r x hF hx H locs ls hH hl K0
  obtain ⟨b6, hz⟩ : ∃ y, y = z := ⟨_, rfl⟩
  subst hz
  dsimp only [f_X12_spreadsFrom_3] at hF
  refine lv_iload X.x X.b (dk DX12_spreadsFrom_0 2 rfl) (lv_at hl 4 rfl) ?_
  refine lv_aload_n X.x X.b (dk DX12_spreadsFrom_0 3 rfl) rfl (lv_at hl 0 rfl) ?_
  refine og_getI OX12 X hq hH 0 (by decide) rfl kF_X12_248 (dk DX12_spreadsFrom_0 4 rfl) ?_
  refine lv_icmp_ge (tgt := 27) X.x X.b (dk DX12_spreadsFrom_0 5 rfl) (by decide) (fun c1 => ?_) (fun c1 => ?_)
  · replace hF := if_t hF c1
    have hr9 := lp_r hF hx
    subst hr9
    exact K0 _ _ _ hH (lv_sub hl [0, 1, 2, 3, 4] rfl)
  · replace hF := if_f hF c1
    refine lv_lload_n X.x X.b (dk DX12_spreadsFrom_0 6 rfl) rfl (lv_at hl 2 rfl) ?_
    refine lv_iload X.x X.b (dk DX12_spreadsFrom_0 7 rfl) (lv_at hl 4 rfl) ?_
    obtain ⟨x2, e3, hF⟩ := bd hF
    refine mr_ci0 hH ⟨rfl, rfl⟩ (mr_runS (As := [.long b3, .int b6]) (rest := []) X hH (c_X12_has e3) kM_X12_232 kT_X12_has kN_X12 kC_X12_has hd_X12_has ⟨by dsimp only [rm_X12_spreadsFrom, rm_X12_has]; omega, by dsimp only [rm_X12_spreadsFrom, rm_X12_has]; omega⟩ rfl hl.1 (Nat.le_of_ble_eq_true rfl) (dk DX12_spreadsFrom_0 8 rfl) ⟨Nat.zero_le _, Nat.zero_le _⟩) (fun r h1 H locs hp hH => ?_)
    obtain ⟨hr1, hr2⟩ := hp; rw [hr1]; rw [hr2] at hH; clear hr1 hr2
    refine lv_if_eq (tgt := 27) X.x X.b (dk DX12_spreadsFrom_0 9 rfl) (by decide) (fun c5 => ?_) (fun c5 => ?_)
    · replace hF := if_t hF c5
      have hr9 := lp_r hF hx
      subst hr9
      exact K0 _ _ _ hH (lv_sub hl [0, 1, 2, 3, 4] rfl)
    · replace hF := if_f hF c5
      obtain ⟨v6, e7⟩ : ∃ y : Int32, y = b6 + 1 := ⟨_, rfl⟩
      replace hF := bnd_e hF e7
      refine lv_iinc (v := v6) (lv' := [(6, .int v6), (0, .ref (q 53)), (1, .long b1), (3, .long b3), (5, .int b5)]) X.x X.b (dk DX12_spreadsFrom_0 10 rfl) hl (k := 4) rfl (by rw [e7]; rfl) (by decide) rfl (fun ls hl => ?_)
      replace hl : lv_has ls 8 [(0, .ref (q 53)), (1, .long b1), (3, .long b3), (5, .int b5), (6, .int v6)] := lv_sub hl [1, 2, 3, 4, 0] rfl
      refine lv_goto (tgt := 3) X.x X.b (dk DX12_spreadsFrom_0 11 rfl) (by decide) ?_
      exact (lp_l hF hx) _ _ _ hH (lv_sub hl [0, 1, 2, 3, 4] rfl) K0
set_option maxHeartbeats 4000000 in
set_option maxRecDepth 100000 in
theorem w_X12_spreadsFrom_45 {p : Program} {l : Launch} {e : Env} {s : State} {m : MethodId} {args : Array Value} {below : List Frame} {meth : Method} {c : Code} {Q : State → Prop} {G : mG} {h : mM} {q : Nat → Nat} (hq : oinj LX12 q) {d : Nat} {rec : OS → Int64 → Int64 → Int32 → Option (OS)} (ih : ∀ (st : OS) (a0 : Int64) (a1 : Int64) (a2 : Int32) (x : OS), rec st a0 a1 a2 = some x → cQ l G yX12_spreadsFrom cX12_spreadsFrom 8 none (rm_X12_spreadsFrom d) [.ref (q 53), .long a0, .long a1, .int a2] (oset LX12 G q st h) (mQv G (fun h1 => h1 = oset LX12 G q x h))) (X : mX G p m c cX12_spreadsFrom 8 s args RX12) (b1 : Int64) (b3 : Int64) (b5 : Int32) (b6 : Int32) : ∀ (z : OS × Int32) (r : OS), lpv (f_X12_spreadsFrom_45 rec b1 b3 b5 b6) z = some r → ∀ (H : Heap) (locs : List Loc) (ls : Array Slot), mH G (oset LX12 G q z.1 h) s.heap H locs → lv_has ls 8 [(0, .ref (q 53)), (1, .long b1), (3, .long b3), (5, .int b5), (6, .int b6), (7, .int z.2)] → (∀ (H : Heap) (locs : List Loc) (ls : Array Slot), mH G (oset LX12 G q r h) s.heap H locs → lv_has ls 8 [] → W p l e (rm_X12_spreadsFrom (d + 1)) s m args below meth c H locs 0 0 Q (F0 m 137 ls [])) → W p l e (rm_X12_spreadsFrom (d + 1)) s m args below meth c H locs 0 0 Q (F0 m 45 ls []) := by
  refine lpv_rec ?_
  intro z r x hF hx H locs ls hH hl K0
  obtain ⟨s_t, b7⟩ := z
  dsimp only [f_X12_spreadsFrom_45] at hF
  try dsimp only at hH hl
  refine lv_iload X.x X.b (dk DX12_spreadsFrom_0 22 rfl) (lv_at hl 5 rfl) ?_
  refine lv_aload_n X.x X.b (dk DX12_spreadsFrom_0 23 rfl) rfl (lv_at hl 0 rfl) ?_
  refine og_getI OX12 X hq hH 1 (by decide) rfl kF_X12_250 (dk DX12_spreadsFrom_0 24 rfl) ?_
  refine lv_icmp_ge (tgt := 137) X.x X.b (dk DX12_spreadsFrom_0 25 rfl) (by decide) (fun c12 => ?_) (fun c12 => ?_)
  · replace hF := if_t hF c12
    have hr9 := lp_r hF hx
    subst hr9
    exact K0 _ _ _ hH (lv_sub hl [] rfl)
  · replace hF := if_f hF c12
    refine lv_aload_n X.x X.b (dk DX12_spreadsFrom_0 26 rfl) rfl (lv_at hl 0 rfl) ?_
    refine og_getI OX12 X hq hH 23 (by decide) rfl kF_X12_309 (dk DX12_spreadsFrom_0 27 rfl) ?_
    refine lv_if_ne (tgt := 137) X.x X.b (dk DX12_spreadsFrom_0 28 rfl) (by decide) (fun c13 => ?_) (fun c13 => ?_)
    · replace hF := if_f hF c13
      have hr9 := lp_r hF hx
      subst hr9
      exact K0 _ _ _ hH (lv_sub hl [] rfl)
    · replace hF := if_t hF c13
      refine lv_iload X.x X.b (dk DX12_spreadsFrom_0 29 rfl) (lv_at hl 3 rfl) ?_
      refine lv_if_eq (tgt := 73) X.x X.b (dk DX12_spreadsFrom_0 30 rfl) (by decide) (fun c14 => ?_) (fun c14 => ?_)
      · replace hF := if_t hF c14
        refine lv_aload_n X.x X.b (dk DX12_spreadsFrom_0 34 rfl) rfl (lv_at hl 0 rfl) ?_
        refine og_getR (t := 1) OX12 X hq hH 3 (by decide) rfl kF_X12_7 (dk DX12_spreadsFrom_0 35 rfl) ?_
        refine lv_iload X.x X.b (dk DX12_spreadsFrom_0 36 rfl) (lv_at hl 5 rfl) ?_
        obtain ⟨c15, hF⟩ := gd hF
        refine og_lald X hq hH 3 (by decide) rfl (inb_in c15) (dk DX12_spreadsFrom_0 37 rfl) ?_
        refine lv_iload X.x X.b (dk DX12_spreadsFrom_0 38 rfl) (lv_at hl 4 rfl) ?_
        obtain ⟨x16, e17, hF⟩ := bd hF
        refine mr_ci0 hH ⟨rfl, rfl⟩ (mr_runS (As := [.long (s_t.2.2.2 3 (b7 : Int32).toNatClampNeg), .int b6]) (rest := []) X hH (c_X12_has e17) kM_X12_232 kT_X12_has kN_X12 kC_X12_has hd_X12_has ⟨by dsimp only [rm_X12_spreadsFrom, rm_X12_has]; omega, by dsimp only [rm_X12_spreadsFrom, rm_X12_has]; omega⟩ rfl hl.1 (Nat.le_of_ble_eq_true rfl) (dk DX12_spreadsFrom_0 39 rfl) ⟨Nat.zero_le _, Nat.zero_le _⟩) (fun r h1 H locs hp hH => ?_)
        obtain ⟨hr1, hr2⟩ := hp; rw [hr1]; rw [hr2] at hH; clear hr1 hr2
        refine lv_if_eq (tgt := 131) X.x X.b (dk DX12_spreadsFrom_0 40 rfl) (by decide) (fun c19 => ?_) (fun c19 => ?_)
        · replace hF := if_t hF c19
          obtain ⟨v20, e21⟩ : ∃ y : Int32, y = b7 + 1 := ⟨_, rfl⟩
          replace hF := bnd_e hF e21
          refine lv_iinc (v := v20) (lv' := [(7, .int v20), (0, .ref (q 53)), (1, .long b1), (3, .long b3), (5, .int b5), (6, .int b6)]) X.x X.b (dk DX12_spreadsFrom_1 6 rfl) hl (k := 5) rfl (by rw [e21]; rfl) (by decide) rfl (fun ls hl => ?_)
          replace hl : lv_has ls 8 [(0, .ref (q 53)), (1, .long b1), (3, .long b3), (5, .int b5), (6, .int b6), (7, .int v20)] := lv_sub hl [1, 2, 3, 4, 5, 0] rfl
          refine lv_goto (tgt := 45) X.x X.b (dk DX12_spreadsFrom_1 7 rfl) (by decide) ?_
          exact (lp_l hF hx) _ _ _ hH (lv_sub hl [0, 1, 2, 3, 4, 5] rfl) K0
        · replace hF := if_f hF c19
          refine lv_aload_n X.x X.b (dk DX12_spreadsFrom_0 41 rfl) rfl (lv_at hl 0 rfl) ?_
          refine og_getR (t := 1) OX12 X hq hH 3 (by decide) rfl kF_X12_7 (dk DX12_spreadsFrom_0 42 rfl) ?_
          refine lv_iload X.x X.b (dk DX12_spreadsFrom_0 43 rfl) (lv_at hl 5 rfl) ?_
          refine og_lald X hq hH 3 (by decide) rfl (inb_in c15) (dk DX12_spreadsFrom_0 44 rfl) ?_
          refine lv_lload_n X.x X.b (dk DX12_spreadsFrom_0 45 rfl) rfl (lv_at hl 2 rfl) ?_
          refine lv_land X.x X.b (dk DX12_spreadsFrom_0 46 rfl) ?_
          refine lv_lconst (v := 0) X.x X.b (dk DX12_spreadsFrom_0 47 rfl) (by decide) ?_
          refine W.lcmp X.x X.b (dk DX12_spreadsFrom_0 48 rfl) ?_
          refine lv_if_ne (tgt := 131) X.x X.b (dk DX12_spreadsFrom_0 49 rfl) (by decide) (fun c22 => ?_) (fun c22 => ?_)
          · replace hF := if_f hF c22
            obtain ⟨v23, e24⟩ : ∃ y : Int32, y = b7 + 1 := ⟨_, rfl⟩
            replace hF := bnd_e hF e24
            refine lv_iinc (v := v23) (lv' := [(7, .int v23), (0, .ref (q 53)), (1, .long b1), (3, .long b3), (5, .int b5), (6, .int b6)]) X.x X.b (dk DX12_spreadsFrom_1 6 rfl) hl (k := 5) rfl (by rw [e24]; rfl) (by decide) rfl (fun ls hl => ?_)
            replace hl : lv_has ls 8 [(0, .ref (q 53)), (1, .long b1), (3, .long b3), (5, .int b5), (6, .int b6), (7, .int v23)] := lv_sub hl [1, 2, 3, 4, 5, 0] rfl
            refine lv_goto (tgt := 45) X.x X.b (dk DX12_spreadsFrom_1 7 rfl) (by decide) ?_
            exact (lp_l hF hx) _ _ _ hH (lv_sub hl [0, 1, 2, 3, 4, 5] rfl) K0
          · replace hF := if_t hF c22
            refine lv_aload_n X.x X.b (dk DX12_spreadsFrom_0 50 rfl) rfl (lv_at hl 0 rfl) ?_
            obtain ⟨x25, e26, hF⟩ := bd hF
            refine mr_ci0 hH ⟨rfl, rfl⟩ (mr_runV (As := []) (rest := []) X hH (c_X12_mayTry hq e26) ((oset_at hq (Nat.le_refl _) ohas_N).trans (congrArg some ocell_N)) OX12.1 kM_X12_321 kI_X12_mayTry kS_X12_mayTry kN_X12 kC_X12_mayTry hd_X12_mayTry ⟨by dsimp only [rm_X12_spreadsFrom, rm_X12_mayTry]; omega, by dsimp only [rm_X12_spreadsFrom, rm_X12_mayTry]; omega⟩ rfl hl.1 (Nat.le_of_ble_eq_true rfl) (dk DX12_spreadsFrom_0 51 rfl) ⟨Nat.zero_le _, Nat.zero_le _⟩) (fun r h1 H locs hp hH => ?_)
            obtain ⟨hr1, hr2⟩ := hp; rw [hr1]; rw [hr2] at hH; clear hr1 hr2
            obtain ⟨v27, t28⟩ := x25
            try dsimp only at hF hH ⊢
            refine lv_if_eq (tgt := 131) X.x X.b (dk DX12_spreadsFrom_0 52 rfl) (by decide) (fun c29 => ?_) (fun c29 => ?_)
            · replace hF := if_t hF c29
              obtain ⟨v30, e31⟩ : ∃ y : Int32, y = b7 + 1 := ⟨_, rfl⟩
              replace hF := bnd_e hF e31
              refine lv_iinc (v := v30) (lv' := [(7, .int v30), (0, .ref (q 53)), (1, .long b1), (3, .long b3), (5, .int b5), (6, .int b6)]) X.x X.b (dk DX12_spreadsFrom_1 6 rfl) hl (k := 5) rfl (by rw [e31]; rfl) (by decide) rfl (fun ls hl => ?_)
              replace hl : lv_has ls 8 [(0, .ref (q 53)), (1, .long b1), (3, .long b3), (5, .int b5), (6, .int b6), (7, .int v30)] := lv_sub hl [1, 2, 3, 4, 5, 0] rfl
              refine lv_goto (tgt := 45) X.x X.b (dk DX12_spreadsFrom_1 7 rfl) (by decide) ?_
              exact (lp_l hF hx) _ _ _ hH (lv_sub hl [0, 1, 2, 3, 4, 5] rfl) K0
            · replace hF := if_f hF c29
              refine lv_aload_n X.x X.b (dk DX12_spreadsFrom_0 53 rfl) rfl (lv_at hl 0 rfl) ?_
              refine lv_lload_n X.x X.b (dk DX12_spreadsFrom_0 54 rfl) rfl (lv_at hl 1 rfl) ?_
              refine lv_iload X.x X.b (dk DX12_spreadsFrom_0 55 rfl) (lv_at hl 5 rfl) ?_
              obtain ⟨x32, e33, hF⟩ := bd hF
              refine mr_cl0 hH ⟨rfl, rfl⟩ (mr_runS (As := [.int b7]) (rest := [.long b1, .ref (q 53)]) X hH (c_X12_bit e33) kM_X12_111 kT_X12_bit kN_X12 kC_X12_bit hd_X12_bit ⟨by dsimp only [rm_X12_spreadsFrom, rm_X12_bit]; omega, by dsimp only [rm_X12_spreadsFrom, rm_X12_bit]; omega⟩ rfl hl.1 (Nat.le_of_ble_eq_true rfl) (dk DX12_spreadsFrom_0 56 rfl) ⟨Nat.zero_le _, Nat.zero_le _⟩) (fun r h1 H locs hp hH => ?_)
              obtain ⟨hr1, hr2⟩ := hp; rw [hr1]; rw [hr2] at hH; clear hr1 hr2
              refine lv_lor X.x X.b (dk DX12_spreadsFrom_0 57 rfl) ?_
              refine lv_lload_n X.x X.b (dk DX12_spreadsFrom_0 58 rfl) rfl (lv_at hl 2 rfl) ?_
              refine lv_aload_n X.x X.b (dk DX12_spreadsFrom_0 59 rfl) rfl (lv_at hl 0 rfl) ?_
              refine og_getR (t := 1) OX12 X hq hH 3 (by decide) rfl kF_X12_7 (dk DX12_spreadsFrom_1 0 rfl) ?_
              refine lv_iload X.x X.b (dk DX12_spreadsFrom_1 1 rfl) (lv_at hl 5 rfl) ?_
              refine og_lald X hq hH 3 (by decide) rfl (inb_in c15) (dk DX12_spreadsFrom_1 2 rfl) ?_
              refine lv_lor X.x X.b (dk DX12_spreadsFrom_1 3 rfl) ?_
              refine lv_iload X.x X.b (dk DX12_spreadsFrom_1 4 rfl) (lv_at hl 3 rfl) ?_
              obtain ⟨x35, e36, hF⟩ := bd hF
              refine mr_cv0 hH ⟨rfl, rfl⟩ (mr_runV (As := [.long (b1 ||| x32), .long (b3 ||| (t28.2.2.2 3 (b7 : Int32).toNatClampNeg)), .int b5]) (rest := []) X hH (ih t28 (b1 ||| x32) (b3 ||| (t28.2.2.2 3 (b7 : Int32).toNatClampNeg)) b5 _ e36) ((oset_at hq (Nat.le_refl _) ohas_N).trans (congrArg some ocell_N)) OX12.1 kM_X12_334 kI_X12_spreadsFrom kS_X12_spreadsFrom kN_X12 kC_X12_spreadsFrom hd_X12_spreadsFrom ⟨by dsimp only [rm_X12_spreadsFrom, rm_X12_spreadsFrom]; omega, by dsimp only [rm_X12_spreadsFrom, rm_X12_spreadsFrom]; omega⟩ rfl hl.1 (Nat.le_of_ble_eq_true rfl) (dk DX12_spreadsFrom_1 5 rfl) ⟨Nat.zero_le _, Nat.zero_le _⟩) (fun h1 H locs hp hH => ?_)
              rw [hp] at hH; clear hp
              obtain ⟨v38, e39⟩ : ∃ y : Int32, y = b7 + 1 := ⟨_, rfl⟩
              replace hF := bnd_e hF e39
              refine lv_iinc (v := v38) (lv' := [(7, .int v38), (0, .ref (q 53)), (1, .long b1), (3, .long b3), (5, .int b5), (6, .int b6)]) X.x X.b (dk DX12_spreadsFrom_1 6 rfl) hl (k := 5) rfl (by rw [e39]; rfl) (by decide) rfl (fun ls hl => ?_)
              replace hl : lv_has ls 8 [(0, .ref (q 53)), (1, .long b1), (3, .long b3), (5, .int b5), (6, .int b6), (7, .int v38)] := lv_sub hl [1, 2, 3, 4, 5, 0] rfl
              refine lv_goto (tgt := 45) X.x X.b (dk DX12_spreadsFrom_1 7 rfl) (by decide) ?_
              exact (lp_l hF hx) _ _ _ hH (lv_sub hl [0, 1, 2, 3, 4, 5] rfl) K0
      · replace hF := if_f hF c14
        refine lv_aload_n X.x X.b (dk DX12_spreadsFrom_0 31 rfl) rfl (lv_at hl 0 rfl) ?_
        refine og_getI OX12 X hq hH 22 (by decide) rfl kF_X12_306 (dk DX12_spreadsFrom_0 32 rfl) ?_
        refine lv_if_gt (tgt := 137) X.x X.b (dk DX12_spreadsFrom_0 33 rfl) (by decide) (fun c40 => ?_) (fun c40 => ?_)
        · replace hF := if_t hF c40
          have hr9 := lp_r hF hx
          subst hr9
          exact K0 _ _ _ hH (lv_sub hl [] rfl)
        · replace hF := if_f hF c40
          refine lv_aload_n X.x X.b (dk DX12_spreadsFrom_0 34 rfl) rfl (lv_at hl 0 rfl) ?_
          refine og_getR (t := 1) OX12 X hq hH 3 (by decide) rfl kF_X12_7 (dk DX12_spreadsFrom_0 35 rfl) ?_
          refine lv_iload X.x X.b (dk DX12_spreadsFrom_0 36 rfl) (lv_at hl 5 rfl) ?_
          obtain ⟨c41, hF⟩ := gd hF
          refine og_lald X hq hH 3 (by decide) rfl (inb_in c41) (dk DX12_spreadsFrom_0 37 rfl) ?_
          refine lv_iload X.x X.b (dk DX12_spreadsFrom_0 38 rfl) (lv_at hl 4 rfl) ?_
          obtain ⟨x42, e43, hF⟩ := bd hF
          refine mr_ci0 hH ⟨rfl, rfl⟩ (mr_runS (As := [.long (s_t.2.2.2 3 (b7 : Int32).toNatClampNeg), .int b6]) (rest := []) X hH (c_X12_has e43) kM_X12_232 kT_X12_has kN_X12 kC_X12_has hd_X12_has ⟨by dsimp only [rm_X12_spreadsFrom, rm_X12_has]; omega, by dsimp only [rm_X12_spreadsFrom, rm_X12_has]; omega⟩ rfl hl.1 (Nat.le_of_ble_eq_true rfl) (dk DX12_spreadsFrom_0 39 rfl) ⟨Nat.zero_le _, Nat.zero_le _⟩) (fun r h1 H locs hp hH => ?_)
          obtain ⟨hr1, hr2⟩ := hp; rw [hr1]; rw [hr2] at hH; clear hr1 hr2
          refine lv_if_eq (tgt := 131) X.x X.b (dk DX12_spreadsFrom_0 40 rfl) (by decide) (fun c45 => ?_) (fun c45 => ?_)
          · replace hF := if_t hF c45
            obtain ⟨v46, e47⟩ : ∃ y : Int32, y = b7 + 1 := ⟨_, rfl⟩
            replace hF := bnd_e hF e47
            refine lv_iinc (v := v46) (lv' := [(7, .int v46), (0, .ref (q 53)), (1, .long b1), (3, .long b3), (5, .int b5), (6, .int b6)]) X.x X.b (dk DX12_spreadsFrom_1 6 rfl) hl (k := 5) rfl (by rw [e47]; rfl) (by decide) rfl (fun ls hl => ?_)
            replace hl : lv_has ls 8 [(0, .ref (q 53)), (1, .long b1), (3, .long b3), (5, .int b5), (6, .int b6), (7, .int v46)] := lv_sub hl [1, 2, 3, 4, 5, 0] rfl
            refine lv_goto (tgt := 45) X.x X.b (dk DX12_spreadsFrom_1 7 rfl) (by decide) ?_
            exact (lp_l hF hx) _ _ _ hH (lv_sub hl [0, 1, 2, 3, 4, 5] rfl) K0
          · replace hF := if_f hF c45
            refine lv_aload_n X.x X.b (dk DX12_spreadsFrom_0 41 rfl) rfl (lv_at hl 0 rfl) ?_
            refine og_getR (t := 1) OX12 X hq hH 3 (by decide) rfl kF_X12_7 (dk DX12_spreadsFrom_0 42 rfl) ?_
            refine lv_iload X.x X.b (dk DX12_spreadsFrom_0 43 rfl) (lv_at hl 5 rfl) ?_
            refine og_lald X hq hH 3 (by decide) rfl (inb_in c41) (dk DX12_spreadsFrom_0 44 rfl) ?_
            refine lv_lload_n X.x X.b (dk DX12_spreadsFrom_0 45 rfl) rfl (lv_at hl 2 rfl) ?_
            refine lv_land X.x X.b (dk DX12_spreadsFrom_0 46 rfl) ?_
            refine lv_lconst (v := 0) X.x X.b (dk DX12_spreadsFrom_0 47 rfl) (by decide) ?_
            refine W.lcmp X.x X.b (dk DX12_spreadsFrom_0 48 rfl) ?_
            refine lv_if_ne (tgt := 131) X.x X.b (dk DX12_spreadsFrom_0 49 rfl) (by decide) (fun c48 => ?_) (fun c48 => ?_)
            · replace hF := if_f hF c48
              obtain ⟨v49, e50⟩ : ∃ y : Int32, y = b7 + 1 := ⟨_, rfl⟩
              replace hF := bnd_e hF e50
              refine lv_iinc (v := v49) (lv' := [(7, .int v49), (0, .ref (q 53)), (1, .long b1), (3, .long b3), (5, .int b5), (6, .int b6)]) X.x X.b (dk DX12_spreadsFrom_1 6 rfl) hl (k := 5) rfl (by rw [e50]; rfl) (by decide) rfl (fun ls hl => ?_)
              replace hl : lv_has ls 8 [(0, .ref (q 53)), (1, .long b1), (3, .long b3), (5, .int b5), (6, .int b6), (7, .int v49)] := lv_sub hl [1, 2, 3, 4, 5, 0] rfl
              refine lv_goto (tgt := 45) X.x X.b (dk DX12_spreadsFrom_1 7 rfl) (by decide) ?_
              exact (lp_l hF hx) _ _ _ hH (lv_sub hl [0, 1, 2, 3, 4, 5] rfl) K0
            · replace hF := if_t hF c48
              refine lv_aload_n X.x X.b (dk DX12_spreadsFrom_0 50 rfl) rfl (lv_at hl 0 rfl) ?_
              obtain ⟨x51, e52, hF⟩ := bd hF
              refine mr_ci0 hH ⟨rfl, rfl⟩ (mr_runV (As := []) (rest := []) X hH (c_X12_mayTry hq e52) ((oset_at hq (Nat.le_refl _) ohas_N).trans (congrArg some ocell_N)) OX12.1 kM_X12_321 kI_X12_mayTry kS_X12_mayTry kN_X12 kC_X12_mayTry hd_X12_mayTry ⟨by dsimp only [rm_X12_spreadsFrom, rm_X12_mayTry]; omega, by dsimp only [rm_X12_spreadsFrom, rm_X12_mayTry]; omega⟩ rfl hl.1 (Nat.le_of_ble_eq_true rfl) (dk DX12_spreadsFrom_0 51 rfl) ⟨Nat.zero_le _, Nat.zero_le _⟩) (fun r h1 H locs hp hH => ?_)
              obtain ⟨hr1, hr2⟩ := hp; rw [hr1]; rw [hr2] at hH; clear hr1 hr2
              obtain ⟨v53, t54⟩ := x51
              try dsimp only at hF hH ⊢
              refine lv_if_eq (tgt := 131) X.x X.b (dk DX12_spreadsFrom_0 52 rfl) (by decide) (fun c55 => ?_) (fun c55 => ?_)
              · replace hF := if_t hF c55
                obtain ⟨v56, e57⟩ : ∃ y : Int32, y = b7 + 1 := ⟨_, rfl⟩
                replace hF := bnd_e hF e57
                refine lv_iinc (v := v56) (lv' := [(7, .int v56), (0, .ref (q 53)), (1, .long b1), (3, .long b3), (5, .int b5), (6, .int b6)]) X.x X.b (dk DX12_spreadsFrom_1 6 rfl) hl (k := 5) rfl (by rw [e57]; rfl) (by decide) rfl (fun ls hl => ?_)
                replace hl : lv_has ls 8 [(0, .ref (q 53)), (1, .long b1), (3, .long b3), (5, .int b5), (6, .int b6), (7, .int v56)] := lv_sub hl [1, 2, 3, 4, 5, 0] rfl
                refine lv_goto (tgt := 45) X.x X.b (dk DX12_spreadsFrom_1 7 rfl) (by decide) ?_
                exact (lp_l hF hx) _ _ _ hH (lv_sub hl [0, 1, 2, 3, 4, 5] rfl) K0
              · replace hF := if_f hF c55
                refine lv_aload_n X.x X.b (dk DX12_spreadsFrom_0 53 rfl) rfl (lv_at hl 0 rfl) ?_
                refine lv_lload_n X.x X.b (dk DX12_spreadsFrom_0 54 rfl) rfl (lv_at hl 1 rfl) ?_
                refine lv_iload X.x X.b (dk DX12_spreadsFrom_0 55 rfl) (lv_at hl 5 rfl) ?_
                obtain ⟨x58, e59, hF⟩ := bd hF
                refine mr_cl0 hH ⟨rfl, rfl⟩ (mr_runS (As := [.int b7]) (rest := [.long b1, .ref (q 53)]) X hH (c_X12_bit e59) kM_X12_111 kT_X12_bit kN_X12 kC_X12_bit hd_X12_bit ⟨by dsimp only [rm_X12_spreadsFrom, rm_X12_bit]; omega, by dsimp only [rm_X12_spreadsFrom, rm_X12_bit]; omega⟩ rfl hl.1 (Nat.le_of_ble_eq_true rfl) (dk DX12_spreadsFrom_0 56 rfl) ⟨Nat.zero_le _, Nat.zero_le _⟩) (fun r h1 H locs hp hH => ?_)
                obtain ⟨hr1, hr2⟩ := hp; rw [hr1]; rw [hr2] at hH; clear hr1 hr2
                refine lv_lor X.x X.b (dk DX12_spreadsFrom_0 57 rfl) ?_
                refine lv_lload_n X.x X.b (dk DX12_spreadsFrom_0 58 rfl) rfl (lv_at hl 2 rfl) ?_
                refine lv_aload_n X.x X.b (dk DX12_spreadsFrom_0 59 rfl) rfl (lv_at hl 0 rfl) ?_
                refine og_getR (t := 1) OX12 X hq hH 3 (by decide) rfl kF_X12_7 (dk DX12_spreadsFrom_1 0 rfl) ?_
                refine lv_iload X.x X.b (dk DX12_spreadsFrom_1 1 rfl) (lv_at hl 5 rfl) ?_
                refine og_lald X hq hH 3 (by decide) rfl (inb_in c41) (dk DX12_spreadsFrom_1 2 rfl) ?_
                refine lv_lor X.x X.b (dk DX12_spreadsFrom_1 3 rfl) ?_
                refine lv_iload X.x X.b (dk DX12_spreadsFrom_1 4 rfl) (lv_at hl 3 rfl) ?_
                obtain ⟨x61, e62, hF⟩ := bd hF
                refine mr_cv0 hH ⟨rfl, rfl⟩ (mr_runV (As := [.long (b1 ||| x58), .long (b3 ||| (t54.2.2.2 3 (b7 : Int32).toNatClampNeg)), .int b5]) (rest := []) X hH (ih t54 (b1 ||| x58) (b3 ||| (t54.2.2.2 3 (b7 : Int32).toNatClampNeg)) b5 _ e62) ((oset_at hq (Nat.le_refl _) ohas_N).trans (congrArg some ocell_N)) OX12.1 kM_X12_334 kI_X12_spreadsFrom kS_X12_spreadsFrom kN_X12 kC_X12_spreadsFrom hd_X12_spreadsFrom ⟨by dsimp only [rm_X12_spreadsFrom, rm_X12_spreadsFrom]; omega, by dsimp only [rm_X12_spreadsFrom, rm_X12_spreadsFrom]; omega⟩ rfl hl.1 (Nat.le_of_ble_eq_true rfl) (dk DX12_spreadsFrom_1 5 rfl) ⟨Nat.zero_le _, Nat.zero_le _⟩) (fun h1 H locs hp hH => ?_)
                rw [hp] at hH; clear hp
                obtain ⟨v64, e65⟩ : ∃ y : Int32, y = b7 + 1 := ⟨_, rfl⟩
                replace hF := bnd_e hF e65
                refine lv_iinc (v := v64) (lv' := [(7, .int v64), (0, .ref (q 53)), (1, .long b1), (3, .long b3), (5, .int b5), (6, .int b6)]) X.x X.b (dk DX12_spreadsFrom_1 6 rfl) hl (k := 5) rfl (by rw [e65]; rfl) (by decide) rfl (fun ls hl => ?_)
                replace hl : lv_has ls 8 [(0, .ref (q 53)), (1, .long b1), (3, .long b3), (5, .int b5), (6, .int b6), (7, .int v64)] := lv_sub hl [1, 2, 3, 4, 5, 0] rfl
                refine lv_goto (tgt := 45) X.x X.b (dk DX12_spreadsFrom_1 7 rfl) (by decide) ?_
                exact (lp_l hF hx) _ _ _ hH (lv_sub hl [0, 1, 2, 3, 4, 5] rfl) K0
set_option maxHeartbeats 4000000 in
set_option maxRecDepth 100000 in
theorem c_X12_spreadsFrom {l : Launch} {G : mG} {h : mM} {q : Nat → Nat} (hq : oinj LX12 q) (d : Nat) : ∀ (st : OS) (a0 : Int64) (a1 : Int64) (a2 : Int32) (x : OS), f_X12_spreadsFrom d st a0 a1 a2 = some x → cQ l G yX12_spreadsFrom cX12_spreadsFrom 8 none (rm_X12_spreadsFrom d) [.ref (q 53), .long a0, .long a1, .int a2] (oset LX12 G q st h) (mQv G (fun h1 => h1 = oset LX12 G q x h)) := by
  induction d with
  | zero => intro st a0 a1 a2 x hF; cases hF
  | succ d ih =>
    intro st a0 a1 a2 x hF
    have hF : f_X12_spreadsFrom_T (f_X12_spreadsFrom d) st a0 a1 a2 = some x := hF
    generalize f_X12_spreadsFrom d = rec at hF ih
    refine mp_of (by decide +kernel) (Nat.le_of_ble_eq_true rfl) ?_
    intro p e s m below meth c X hr hlk hH hname ls hl
    dsimp only [f_X12_spreadsFrom_T] at hF
    replace hl : lv_has ls 8 [(0, .ref (q 53)), (1, .long a0), (3, .long a1), (5, .int a2)] := hl
    refine lv_iconst (v := 0) X.x X.b (dk DX12_spreadsFrom_0 0 rfl) (by decide) ?_
    refine lv_istore (lv' := [(6, .int 0), (0, .ref (q 53)), (1, .long a0), (3, .long a1), (5, .int a2)]) X.x X.b (dk DX12_spreadsFrom_0 1 rfl) hl (by decide) rfl (fun ls hl => ?_)
    replace hl : lv_has ls 8 [(0, .ref (q 53)), (1, .long a0), (3, .long a1), (5, .int a2), (6, .int 0)] := lv_sub hl [1, 2, 3, 4, 0] rfl
    obtain ⟨x8, e9, hF⟩ := bd hF
    replace hl : lv_has ls 8 [(0, .ref (q 53)), (1, .long a0), (3, .long a1), (5, .int a2), (6, .int 0)] := lv_sub hl [0, 1, 2, 3, 4] rfl
    refine w_X12_spreadsFrom_3 hq ih X st a0 a1 a2 _ _ e9 _ _ _ hH hl (fun H locs ls hH hl => ?_)
    refine lv_iload X.x X.b (dk DX12_spreadsFrom_0 12 rfl) (lv_at hl 4 rfl) ?_
    refine lv_aload_n X.x X.b (dk DX12_spreadsFrom_0 13 rfl) rfl (lv_at hl 0 rfl) ?_
    refine og_getI OX12 X hq hH 0 (by decide) rfl kF_X12_248 (dk DX12_spreadsFrom_0 14 rfl) ?_
    refine lv_icmp_ne (tgt := 42) X.x X.b (dk DX12_spreadsFrom_0 15 rfl) (by decide) (fun c11 => ?_) (fun c11 => ?_)
    · replace hF := if_f hF c11
      refine lv_iconst (v := 0) X.x X.b (dk DX12_spreadsFrom_0 20 rfl) (by decide) ?_
      refine lv_istore (lv' := [(7, .int 0), (0, .ref (q 53)), (1, .long a0), (3, .long a1), (5, .int a2), (6, .int x8)]) X.x X.b (dk DX12_spreadsFrom_0 21 rfl) hl (by decide) rfl (fun ls hl => ?_)
      replace hl : lv_has ls 8 [(0, .ref (q 53)), (1, .long a0), (3, .long a1), (5, .int a2), (6, .int x8), (7, .int 0)] := lv_sub hl [1, 2, 3, 4, 5, 0] rfl
      obtain ⟨x66, e67, hF⟩ := bd hF
      replace hl : lv_has ls 8 [(0, .ref (q 53)), (1, .long a0), (3, .long a1), (5, .int a2), (6, .int x8), (7, .int 0)] := lv_sub hl [0, 1, 2, 3, 4, 5] rfl
      refine w_X12_spreadsFrom_45 hq ih X a0 a1 a2 x8 _ _ e67 _ _ _ hH hl (fun H locs ls hH hl => ?_)
      cases sm hF
      exact mr_vret X hr hlk hH rfl (dk DX12_spreadsFrom_1 8 rfl)
    · replace hF := if_t hF c11
      refine lv_aload_n X.x X.b (dk DX12_spreadsFrom_0 16 rfl) rfl (lv_at hl 0 rfl) ?_
      refine lv_lload_n X.x X.b (dk DX12_spreadsFrom_0 17 rfl) rfl (lv_at hl 1 rfl) ?_
      obtain ⟨x69, e70, hF⟩ := bd hF
      refine mr_cv0 hH ⟨rfl, rfl⟩ (mr_runV (As := [.long a0]) (rest := []) X hH (c_X12_finds hq e70) ((oset_at hq (Nat.le_refl _) ohas_N).trans (congrArg some ocell_N)) OX12.1 kM_X12_318 kI_X12_finds kS_X12_finds kN_X12 kC_X12_finds hd_X12_finds ⟨by dsimp only [rm_X12_spreadsFrom, rm_X12_finds]; omega, by dsimp only [rm_X12_spreadsFrom, rm_X12_finds]; omega⟩ rfl hl.1 (Nat.le_of_ble_eq_true rfl) (dk DX12_spreadsFrom_0 18 rfl) ⟨Nat.zero_le _, Nat.zero_le _⟩) (fun h1 H locs hp hH => ?_)
      rw [hp] at hH; clear hp
      cases sm hF
      exact mr_vret X hr hlk hH rfl (dk DX12_spreadsFrom_0 19 rfl)
-- X12_spread
abbrev rm_X12_spread : Room := { frames := 72, cells := 0, slots := 0, locals := 1939 }
theorem hd_X12_spread : mHd yX12_spread 0 := ⟨by decide +kernel, by decide +kernel, by decide +kernel⟩
theorem DX12_spread_0 : ∀ t ∈ ([(0, .aload_n 0, 1), (1, .iconst 0, 1), (2, .putfield 106, 3), (5, .aload_n 0, 1), (6, .invokevirtual 329, 3), (9, .aload_n 0, 1), (10, .lconst 0, 1), (11, .lconst 0, 1), (12, .iconst 1, 1), (13, .invokevirtual 334, 3), (16, .aload_n 0, 1), (17, .getfield 309, 3), (20, .ifCond .eq 9, 3), (23, .ldc2_w 332, 3), (26, .goto 7, 3), (29, .aload_n 0, 1), (30, .getfield 313, 3), (33, .lreturn, 1)] : List (Nat × Instr × Nat)), decode cX12_spread t.1 = .ok (t.2.1, t.2.2) := by decide +kernel
noncomputable def f_X12_spread (st : OS) : Option (Int64 × OS) := bnd (oI st 2 0) (fun t1 => (f_X12_begins t1).bind (fun x3 => (f_X12_spreadsFrom 70 x3 0 0 1).bind (fun x6 => (if (x6.1 23) = 0 then some ((x6.2.1 24, x6)) else some (((-2), x6))))))
set_option maxHeartbeats 4000000 in
set_option maxRecDepth 100000 in
theorem c_X12_spread {l : Launch} {G : mG} {h : mM} {q : Nat → Nat} (hq : oinj LX12 q) {st : OS} {x : Int64 × OS} (hF : f_X12_spread st = some x) : cQ l G yX12_spread cX12_spread 1 (some FieldType.long) rm_X12_spread [.ref (q 53)] (oset LX12 G q st h) (mQl G (fun r h1 => r = x.1 ∧ h1 = oset LX12 G q x.2 h)) := by
  refine mp_of (by decide +kernel) (Nat.le_of_ble_eq_true rfl) ?_
  intro p e s m below meth c X hr hlk hH hname ls hl
  dsimp only [f_X12_spread] at hF
  replace hl : lv_has ls 1 [(0, .ref (q 53))] := hl
  refine lv_aload_n X.x X.b (dk DX12_spread_0 0 rfl) rfl (lv_at hl 0 rfl) ?_
  refine lv_iconst (v := 0) X.x X.b (dk DX12_spread_0 1 rfl) (by decide) ?_
  refine og_putI OX12 X hq hH 2 (by decide) rfl kF_X12_106 rfl rfl rfl (dk DX12_spread_0 2 rfl) (fun H locs hH => ?_)
  obtain ⟨t1, e2⟩ : ∃ y, y = oI st 2 0 := ⟨_, rfl⟩
  rw [← e2] at hH
  replace hF := bnd_e hF e2
  refine lv_aload_n X.x X.b (dk DX12_spread_0 3 rfl) rfl (lv_at hl 0 rfl) ?_
  obtain ⟨x3, e4, hF⟩ := bd hF
  refine mr_cv0 hH ⟨rfl, rfl⟩ (mr_runV (As := []) (rest := []) X hH (c_X12_begins hq e4) ((oset_at hq (Nat.le_refl _) ohas_N).trans (congrArg some ocell_N)) OX12.1 kM_X12_329 kI_X12_begins kS_X12_begins kN_X12 kC_X12_begins hd_X12_begins ⟨Nat.le_of_ble_eq_true rfl, Nat.le_of_ble_eq_true rfl⟩ rfl hl.1 (Nat.le_of_ble_eq_true rfl) (dk DX12_spread_0 4 rfl) ⟨Nat.zero_le _, Nat.zero_le _⟩) (fun h1 H locs hp hH => ?_)
  rw [hp] at hH; clear hp
  refine lv_aload_n X.x X.b (dk DX12_spread_0 5 rfl) rfl (lv_at hl 0 rfl) ?_
  refine lv_lconst (v := 0) X.x X.b (dk DX12_spread_0 6 rfl) (by decide) ?_
  refine lv_lconst (v := 0) X.x X.b (dk DX12_spread_0 7 rfl) (by decide) ?_
  refine lv_iconst (v := 1) X.x X.b (dk DX12_spread_0 8 rfl) (by decide) ?_
  obtain ⟨x6, e7, hF⟩ := bd hF
  refine mr_cv0 hH ⟨rfl, rfl⟩ (mr_runV (As := [.long 0, .long 0, .int 1]) (rest := []) X hH (c_X12_spreadsFrom hq 70 x3 0 0 1 _ e7) ((oset_at hq (Nat.le_refl _) ohas_N).trans (congrArg some ocell_N)) OX12.1 kM_X12_334 kI_X12_spreadsFrom kS_X12_spreadsFrom kN_X12 kC_X12_spreadsFrom hd_X12_spreadsFrom ⟨Nat.le_of_ble_eq_true rfl, Nat.le_of_ble_eq_true rfl⟩ rfl hl.1 (Nat.le_of_ble_eq_true rfl) (dk DX12_spread_0 9 rfl) ⟨Nat.zero_le _, Nat.zero_le _⟩) (fun h1 H locs hp hH => ?_)
  rw [hp] at hH; clear hp
  refine lv_aload_n X.x X.b (dk DX12_spread_0 10 rfl) rfl (lv_at hl 0 rfl) ?_
  refine og_getI OX12 X hq hH 23 (by decide) rfl kF_X12_309 (dk DX12_spread_0 11 rfl) ?_
  refine lv_if_eq (tgt := 29) X.x X.b (dk DX12_spread_0 12 rfl) (by decide) (fun c9 => ?_) (fun c9 => ?_)
  · replace hF := if_t hF c9
    refine lv_aload_n X.x X.b (dk DX12_spread_0 15 rfl) rfl (lv_at hl 0 rfl) ?_
    refine og_getJ OX12 X hq hH 24 (by decide) rfl kF_X12_313 (dk DX12_spread_0 16 rfl) ?_
    cases sm hF
    exact mr_lret X hr hlk hH ⟨rfl, rfl⟩ (dk DX12_spread_0 17 rfl)
  · replace hF := if_f hF c9
    refine lv_ldc2 (v := (-2)) X.x X.b X.ow (X.ts _ kK_X12_332) (dk DX12_spread_0 13 rfl) ?_
    refine lv_goto (tgt := 33) X.x X.b (dk DX12_spread_0 14 rfl) (by decide) ?_
    cases sm hF
    exact mr_lret X hr hlk hH ⟨rfl, rfl⟩ (dk DX12_spread_0 17 rfl)
-- X12_spreads
abbrev rm_X12_spreads : Room := { frames := 72, cells := 0, slots := 0, locals := 1939 }
theorem hd_X12_spreads : mHd yX12_spreads 0 := ⟨by decide +kernel, by decide +kernel, by decide +kernel⟩
theorem DX12_spreads_0 : ∀ t ∈ ([(0, .aload_n 0, 1), (1, .iconst 0, 1), (2, .putfield 106, 3), (5, .aload_n 0, 1), (6, .invokevirtual 329, 3), (9, .aload_n 0, 1), (10, .lconst 0, 1), (11, .lconst 0, 1), (12, .iconst 0, 1), (13, .invokevirtual 334, 3), (16, .aload_n 0, 1), (17, .getfield 309, 3), (20, .ifCond .eq 8, 3), (23, .bipush (-2), 2), (25, .goto 7, 3), (28, .aload_n 0, 1), (29, .getfield 306, 3), (32, .ireturn, 1)] : List (Nat × Instr × Nat)), decode cX12_spreads t.1 = .ok (t.2.1, t.2.2) := by decide +kernel
noncomputable def f_X12_spreads (st : OS) : Option (Int32 × OS) := bnd (oI st 2 0) (fun t1 => (f_X12_begins t1).bind (fun x3 => (f_X12_spreadsFrom 70 x3 0 0 0).bind (fun x6 => (if (x6.1 23) = 0 then some ((x6.1 22, x6)) else some (((-2), x6))))))
set_option maxHeartbeats 4000000 in
set_option maxRecDepth 100000 in
theorem c_X12_spreads {l : Launch} {G : mG} {h : mM} {q : Nat → Nat} (hq : oinj LX12 q) {st : OS} {x : Int32 × OS} (hF : f_X12_spreads st = some x) : cQ l G yX12_spreads cX12_spreads 1 (some FieldType.int) rm_X12_spreads [.ref (q 53)] (oset LX12 G q st h) (mQi G (fun r h1 => r = x.1 ∧ h1 = oset LX12 G q x.2 h)) := by
  refine mp_of (by decide +kernel) (Nat.le_of_ble_eq_true rfl) ?_
  intro p e s m below meth c X hr hlk hH hname ls hl
  dsimp only [f_X12_spreads] at hF
  replace hl : lv_has ls 1 [(0, .ref (q 53))] := hl
  refine lv_aload_n X.x X.b (dk DX12_spreads_0 0 rfl) rfl (lv_at hl 0 rfl) ?_
  refine lv_iconst (v := 0) X.x X.b (dk DX12_spreads_0 1 rfl) (by decide) ?_
  refine og_putI OX12 X hq hH 2 (by decide) rfl kF_X12_106 rfl rfl rfl (dk DX12_spreads_0 2 rfl) (fun H locs hH => ?_)
  obtain ⟨t1, e2⟩ : ∃ y, y = oI st 2 0 := ⟨_, rfl⟩
  rw [← e2] at hH
  replace hF := bnd_e hF e2
  refine lv_aload_n X.x X.b (dk DX12_spreads_0 3 rfl) rfl (lv_at hl 0 rfl) ?_
  obtain ⟨x3, e4, hF⟩ := bd hF
  refine mr_cv0 hH ⟨rfl, rfl⟩ (mr_runV (As := []) (rest := []) X hH (c_X12_begins hq e4) ((oset_at hq (Nat.le_refl _) ohas_N).trans (congrArg some ocell_N)) OX12.1 kM_X12_329 kI_X12_begins kS_X12_begins kN_X12 kC_X12_begins hd_X12_begins ⟨Nat.le_of_ble_eq_true rfl, Nat.le_of_ble_eq_true rfl⟩ rfl hl.1 (Nat.le_of_ble_eq_true rfl) (dk DX12_spreads_0 4 rfl) ⟨Nat.zero_le _, Nat.zero_le _⟩) (fun h1 H locs hp hH => ?_)
  rw [hp] at hH; clear hp
  refine lv_aload_n X.x X.b (dk DX12_spreads_0 5 rfl) rfl (lv_at hl 0 rfl) ?_
  refine lv_lconst (v := 0) X.x X.b (dk DX12_spreads_0 6 rfl) (by decide) ?_
  refine lv_lconst (v := 0) X.x X.b (dk DX12_spreads_0 7 rfl) (by decide) ?_
  refine lv_iconst (v := 0) X.x X.b (dk DX12_spreads_0 8 rfl) (by decide) ?_
  obtain ⟨x6, e7, hF⟩ := bd hF
  refine mr_cv0 hH ⟨rfl, rfl⟩ (mr_runV (As := [.long 0, .long 0, .int 0]) (rest := []) X hH (c_X12_spreadsFrom hq 70 x3 0 0 0 _ e7) ((oset_at hq (Nat.le_refl _) ohas_N).trans (congrArg some ocell_N)) OX12.1 kM_X12_334 kI_X12_spreadsFrom kS_X12_spreadsFrom kN_X12 kC_X12_spreadsFrom hd_X12_spreadsFrom ⟨Nat.le_of_ble_eq_true rfl, Nat.le_of_ble_eq_true rfl⟩ rfl hl.1 (Nat.le_of_ble_eq_true rfl) (dk DX12_spreads_0 9 rfl) ⟨Nat.zero_le _, Nat.zero_le _⟩) (fun h1 H locs hp hH => ?_)
  rw [hp] at hH; clear hp
  refine lv_aload_n X.x X.b (dk DX12_spreads_0 10 rfl) rfl (lv_at hl 0 rfl) ?_
  refine og_getI OX12 X hq hH 23 (by decide) rfl kF_X12_309 (dk DX12_spreads_0 11 rfl) ?_
  refine lv_if_eq (tgt := 28) X.x X.b (dk DX12_spreads_0 12 rfl) (by decide) (fun c9 => ?_) (fun c9 => ?_)
  · replace hF := if_t hF c9
    refine lv_aload_n X.x X.b (dk DX12_spreads_0 15 rfl) rfl (lv_at hl 0 rfl) ?_
    refine og_getI OX12 X hq hH 22 (by decide) rfl kF_X12_306 (dk DX12_spreads_0 16 rfl) ?_
    cases sm hF
    exact mr_iret X hr hlk hH ⟨rfl, rfl⟩ (dk DX12_spreads_0 17 rfl)
  · replace hF := if_f hF c9
    refine lv_bipush (v := (-2)) X.x X.b (dk DX12_spreads_0 13 rfl) (by decide) ?_
    refine lv_goto (tgt := 32) X.x X.b (dk DX12_spreads_0 14 rfl) (by decide) ?_
    cases sm hF
    exact mr_iret X hr hlk hH ⟨rfl, rfl⟩ (dk DX12_spreads_0 17 rfl)
-- J9_max_7cf53
abbrev rm_J9_max_7cf53 : Room := { frames := 0, cells := 0, slots := 0, locals := 0 }
theorem hd_J9_max_7cf53 : mHd yJ9_max_7cf53 2 := ⟨by decide +kernel, by decide +kernel, by decide +kernel⟩
theorem DJ9_max_7cf53_0 : ∀ t ∈ ([(0, .iload_n 0, 1), (1, .iload_n 1, 1), (2, .if_icmp .lt 7, 3), (5, .iload_n 0, 1), (6, .goto 4, 3), (9, .iload_n 1, 1), (10, .ireturn, 1)] : List (Nat × Instr × Nat)), decode cJ9_max_7cf53 t.1 = .ok (t.2.1, t.2.2) := by decide +kernel
noncomputable def f_J9_max_7cf53 (a0 : Int32) (a1 : Int32) : Option (Int32) := (if a0 < a1 then some a1 else some a0)
set_option maxHeartbeats 4000000 in
set_option maxRecDepth 100000 in
theorem c_J9_max_7cf53 {l : Launch} {G : mG} {h : mM}  {a0 : Int32} {a1 : Int32} {x : Int32} (hF : f_J9_max_7cf53 a0 a1 = some x) : cQ l G yJ9_max_7cf53 cJ9_max_7cf53 2 (some FieldType.int) rm_J9_max_7cf53 [.int a0, .int a1] (h) (mQi G (fun r h1 => r = x ∧ h1 = h)) := by
  refine mp_of (by decide +kernel) (Nat.le_of_ble_eq_true rfl) ?_
  intro p e s m below meth c X hr hlk hH hname ls hl
  dsimp only [f_J9_max_7cf53] at hF
  replace hl : lv_has ls 2 [(0, .int a0), (1, .int a1)] := hl
  refine lv_iload_n X.x X.b (dk DJ9_max_7cf53_0 0 rfl) rfl (lv_at hl 0 rfl) ?_
  refine lv_iload_n X.x X.b (dk DJ9_max_7cf53_0 1 rfl) rfl (lv_at hl 1 rfl) ?_
  refine lv_icmp_lt (tgt := 9) X.x X.b (dk DJ9_max_7cf53_0 2 rfl) (by decide) (fun c1 => ?_) (fun c1 => ?_)
  · replace hF := if_t hF c1
    refine lv_iload_n X.x X.b (dk DJ9_max_7cf53_0 5 rfl) rfl (lv_at hl 1 rfl) ?_
    cases sm hF
    exact mr_iret X hr hlk hH ⟨rfl, rfl⟩ (dk DJ9_max_7cf53_0 6 rfl)
  · replace hF := if_f hF c1
    refine lv_iload_n X.x X.b (dk DJ9_max_7cf53_0 3 rfl) rfl (lv_at hl 0 rfl) ?_
    refine lv_goto (tgt := 10) X.x X.b (dk DJ9_max_7cf53_0 4 rfl) (by decide) ?_
    cases sm hF
    exact mr_iret X hr hlk hH ⟨rfl, rfl⟩ (dk DJ9_max_7cf53_0 6 rfl)
-- X12_mostApart
abbrev rm_X12_mostApart (d : Nat) : Room := { frames := 1 + d, cells := 0, slots := 0, locals := 24 + d * 28 }
theorem hd_X12_mostApart : mHd yX12_mostApart 1 := ⟨by decide +kernel, by decide +kernel, by decide +kernel⟩
theorem DX12_mostApart_0 : ∀ t ∈ ([(0, .lload_n 1, 1), (1, .lconst 0, 1), (2, .lcmp, 1), (3, .ifCond .ne 5, 3), (6, .iconst 0, 1), (7, .ireturn, 1), (8, .iconst (-1), 1), (9, .istore_n 3, 1), (10, .iconst 0, 1), (11, .istore 4, 2), (13, .iconst 0, 1), (14, .istore 5, 2), (16, .iconst 0, 1), (17, .istore 6, 2), (19, .iconst 0, 1), (20, .istore 7, 2), (22, .iload 7, 2), (24, .aload_n 0, 1), (25, .getfield 248, 3), (28, .if_icmp .ge 68, 3), (31, .lload_n 1, 1), (32, .iload 7, 2), (34, .invokestatic 232, 3), (37, .ifCond .ne 6, 3), (40, .goto 50, 3), (43, .aload_n 0, 1), (44, .getfield 30, 3), (47, .iload 7, 2), (49, .laload, 1), (50, .lload_n 1, 1), (51, .land, 1), (52, .invokestatic 283, 3), (55, .istore 8, 2), (57, .iload_n 3, 1), (58, .iconst (-1), 1), (59, .if_icmp .eq 9, 3), (62, .iload 8, 2), (64, .iload_n 3, 1), (65, .if_icmp .ge 10, 3), (68, .iload 8, 2), (70, .istore_n 3, 1), (71, .iload 7, 2), (73, .istore 4, 2), (75, .iload 8, 2), (77, .iload 5, 2), (79, .if_icmp .le 11, 3), (82, .iload 8, 2), (84, .istore 5, 2), (86, .iload 7, 2), (88, .istore 6, 2), (90, .iinc 7 1, 3), (93, .goto (-71), 3), (96, .iload_n 3, 1), (97, .iconst 1, 1), (98, .if_icmp .gt 33, 3), (101, .iconst 1, 1), (102, .aload_n 0, 1), (103, .lload_n 1, 1), (104, .aload_n 0, 1), (105, .getfield 30, 3)] : List (Nat × Instr × Nat)), decode cX12_mostApart t.1 = .ok (t.2.1, t.2.2) := by decide +kernel
theorem DX12_mostApart_1 : ∀ t ∈ ([(108, .iload 4, 2), (110, .laload, 1), (111, .ldc2_w 109, 3), (114, .lxor, 1), (115, .land, 1), (116, .iload 4, 2), (118, .invokestatic 111, 3), (121, .ldc2_w 109, 3), (124, .lxor, 1), (125, .land, 1), (126, .invokevirtual 338, 3), (129, .iadd, 1), (130, .ireturn, 1), (131, .iconst 1, 1), (132, .aload_n 0, 1), (133, .lload_n 1, 1), (134, .aload_n 0, 1), (135, .getfield 30, 3), (138, .iload 6, 2), (140, .laload, 1), (141, .ldc2_w 109, 3), (144, .lxor, 1), (145, .land, 1), (146, .iload 6, 2), (148, .invokestatic 111, 3), (151, .ldc2_w 109, 3), (154, .lxor, 1), (155, .land, 1), (156, .invokevirtual 338, 3), (159, .iadd, 1), (160, .istore 7, 2), (162, .iload 7, 2), (164, .aload_n 0, 1), (165, .lload_n 1, 1), (166, .iload 6, 2), (168, .invokestatic 111, 3), (171, .ldc2_w 109, 3), (174, .lxor, 1), (175, .land, 1), (176, .invokevirtual 338, 3), (179, .invokestatic 341, 3), (182, .ireturn, 1)] : List (Nat × Instr × Nat)), decode cX12_mostApart t.1 = .ok (t.2.1, t.2.2) := by decide +kernel
noncomputable def f_X12_mostApart_22 (rec : OS → Int64 → Option (Int32)) (s_t : OS) (b1 : Int64) : (Int32 × Int32 × Int32 × Int32 × Int32) → Option ((Int32 × Int32 × Int32 × Int32 × Int32) ⊕ (Int32 × Int32 × Int32)) := fun z => match z with | (b3, b4, b5, b6, b7) => (if (s_t.1 0) ≤ b7 then some (.inr ((b3, b4, b6))) else (f_X12_has b1 b7).bind (fun x3 => (if x3 = 0 then bnd (b7 + 1 : Int32) (fun v28 => some (.inl ((b3, b4, b5, b6, v28)))) else if inb b7 64 = true then (f_X12_ones ((s_t.2.2.2 20 (b7 : Int32).toNatClampNeg) &&& b1)).bind (fun x8 => (if b3 = ((-1)) then (if x8 ≤ b5 then bnd (b7 + 1 : Int32) (fun v13 => some (.inl ((x8, b7, b5, b6, v13)))) else bnd (b7 + 1 : Int32) (fun v15 => some (.inl ((x8, b7, x8, b7, v15))))) else (if b3 ≤ x8 then (if x8 ≤ b5 then bnd (b7 + 1 : Int32) (fun v19 => some (.inl ((b3, b4, b5, b6, v19)))) else bnd (b7 + 1 : Int32) (fun v21 => some (.inl ((b3, b4, x8, b7, v21))))) else (if x8 ≤ b5 then bnd (b7 + 1 : Int32) (fun v24 => some (.inl ((x8, b7, b5, b6, v24)))) else bnd (b7 + 1 : Int32) (fun v26 => some (.inl ((x8, b7, x8, b7, v26)))))))) else none)))
noncomputable def f_X12_mostApart_T (rec : OS → Int64 → Option (Int32)) (st : OS) (a0 : Int64) : Option (Int32) := (if (lg_cmp a0 0) = 0 then some 0 else (lpv (f_X12_mostApart_22 rec st a0) (((-1), 0, 0, 0, 0))).bind (fun x30 => match x30 with | (v32, v33, v34) => (if 1 < v32 then if inb v34 64 = true then (f_X12_bit v34).bind (fun x37 => (rec st ((a0 &&& ((st.2.2.2 20 (v34 : Int32).toNatClampNeg) ^^^ ((-1)))) &&& (x37 ^^^ ((-1))))).bind (fun x40 => bnd ((1 : Int32) + x40 : Int32) (fun v43 => (f_X12_bit v34).bind (fun x45 => (rec st (a0 &&& (x45 ^^^ ((-1))))).bind (fun x48 => (f_J9_max_7cf53 v43 x48).bind (fun x51 => some x51)))))) else none else if inb v33 64 = true then (f_X12_bit v33).bind (fun x55 => (rec st ((a0 &&& ((st.2.2.2 20 (v33 : Int32).toNatClampNeg) ^^^ ((-1)))) &&& (x55 ^^^ ((-1))))).bind (fun x58 => some ((1 : Int32) + x58))) else none)))
noncomputable def f_X12_mostApart : Nat → OS → Int64 → Option (Int32)
  | 0 => fun _ _ => none
  | d + 1 => f_X12_mostApart_T (f_X12_mostApart d)
set_option maxHeartbeats 4000000 in
set_option maxRecDepth 100000 in
theorem w_X12_mostApart_22 {p : Program} {l : Launch} {e : Env} {s : State} {m : MethodId} {args : Array Value} {below : List Frame} {meth : Method} {c : Code} {Q : State → Prop} {G : mG} {h : mM} {q : Nat → Nat} (hq : oinj LX12 q) {d : Nat} {rec : OS → Int64 → Option (Int32)} (ih : ∀ (st : OS) (a0 : Int64) (x : Int32), rec st a0 = some x → cQ l G yX12_mostApart cX12_mostApart 9 (some FieldType.int) (rm_X12_mostApart d) [.ref (q 53), .long a0] (oset LX12 G q st h) (mQi G (fun r h1 => r = x ∧ h1 = oset LX12 G q st h))) (X : mX G p m c cX12_mostApart 9 s args RX12) (s_t : OS) (b1 : Int64) : ∀ (z : Int32 × Int32 × Int32 × Int32 × Int32) (r : Int32 × Int32 × Int32), lpv (f_X12_mostApart_22 rec s_t b1) z = some r → ∀ (H : Heap) (locs : List Loc) (ls : Array Slot), mH G (oset LX12 G q s_t h) s.heap H locs → lv_has ls 9 [(0, .ref (q 53)), (1, .long b1), (3, .int z.1), (4, .int z.2.1), (5, .int z.2.2.1), (6, .int z.2.2.2.1), (7, .int z.2.2.2.2)] → (∀ (H : Heap) (locs : List Loc) (ls : Array Slot), mH G (oset LX12 G q s_t h) s.heap H locs → lv_has ls 9 [(0, .ref (q 53)), (1, .long b1), (3, .int r.1), (4, .int r.2.1), (6, .int r.2.2)] → W p l e (rm_X12_mostApart (d + 1)) s m args below meth c H locs 0 0 Q (F0 m 96 ls [])) → W p l e (rm_X12_mostApart (d + 1)) s m args below meth c H locs 0 0 Q (F0 m 22 ls []) := by
  refine lpv_rec ?_
  intro z r x hF hx H locs ls hH hl K0
  obtain ⟨b3, b4, b5, b6, b7⟩ := z
  dsimp only [f_X12_mostApart_22] at hF
  try dsimp only at hH hl
  refine lv_iload X.x X.b (dk DX12_mostApart_0 16 rfl) (lv_at hl 6 rfl) ?_
  refine lv_aload_n X.x X.b (dk DX12_mostApart_0 17 rfl) rfl (lv_at hl 0 rfl) ?_
  refine og_getI OX12 X hq hH 0 (by decide) rfl kF_X12_248 (dk DX12_mostApart_0 18 rfl) ?_
  refine lv_icmp_ge (tgt := 96) X.x X.b (dk DX12_mostApart_0 19 rfl) (by decide) (fun c2 => ?_) (fun c2 => ?_)
  · replace hF := if_t hF c2
    have hr9 := lp_r hF hx
    subst hr9
    exact K0 _ _ _ hH (lv_sub hl [0, 1, 2, 3, 5] rfl)
  · replace hF := if_f hF c2
    refine lv_lload_n X.x X.b (dk DX12_mostApart_0 20 rfl) rfl (lv_at hl 1 rfl) ?_
    refine lv_iload X.x X.b (dk DX12_mostApart_0 21 rfl) (lv_at hl 6 rfl) ?_
    obtain ⟨x3, e4, hF⟩ := bd hF
    refine mr_ci0 hH ⟨rfl, rfl⟩ (mr_runS (As := [.long b1, .int b7]) (rest := []) X hH (c_X12_has e4) kM_X12_232 kT_X12_has kN_X12 kC_X12_has hd_X12_has ⟨by dsimp only [rm_X12_mostApart, rm_X12_has]; omega, by dsimp only [rm_X12_mostApart, rm_X12_has]; omega⟩ rfl hl.1 (Nat.le_of_ble_eq_true rfl) (dk DX12_mostApart_0 22 rfl) ⟨Nat.zero_le _, Nat.zero_le _⟩) (fun r h1 H locs hp hH => ?_)
    obtain ⟨hr1, hr2⟩ := hp; rw [hr1]; rw [hr2] at hH; clear hr1 hr2
    refine lv_if_ne (tgt := 43) X.x X.b (dk DX12_mostApart_0 23 rfl) (by decide) (fun c6 => ?_) (fun c6 => ?_)
    · replace hF := if_f hF c6
      refine lv_aload_n X.x X.b (dk DX12_mostApart_0 25 rfl) rfl (lv_at hl 0 rfl) ?_
      refine og_getR (t := 1) OX12 X hq hH 20 (by decide) rfl kF_X12_30 (dk DX12_mostApart_0 26 rfl) ?_
      refine lv_iload X.x X.b (dk DX12_mostApart_0 27 rfl) (lv_at hl 6 rfl) ?_
      obtain ⟨c7, hF⟩ := gd hF
      refine og_lald X hq hH 20 (by decide) rfl (inb_in c7) (dk DX12_mostApart_0 28 rfl) ?_
      refine lv_lload_n X.x X.b (dk DX12_mostApart_0 29 rfl) rfl (lv_at hl 1 rfl) ?_
      refine lv_land X.x X.b (dk DX12_mostApart_0 30 rfl) ?_
      obtain ⟨x8, e9, hF⟩ := bd hF
      refine mr_ci0 hH ⟨rfl, rfl⟩ (mr_runS (As := [.long ((s_t.2.2.2 20 (b7 : Int32).toNatClampNeg) &&& b1)]) (rest := []) X hH (c_X12_ones e9) kM_X12_283 kT_X12_ones kN_X12 kC_X12_ones hd_X12_ones ⟨by dsimp only [rm_X12_mostApart, rm_X12_ones]; omega, by dsimp only [rm_X12_mostApart, rm_X12_ones]; omega⟩ rfl hl.1 (Nat.le_of_ble_eq_true rfl) (dk DX12_mostApart_0 31 rfl) ⟨Nat.zero_le _, Nat.zero_le _⟩) (fun r h1 H locs hp hH => ?_)
      obtain ⟨hr1, hr2⟩ := hp; rw [hr1]; rw [hr2] at hH; clear hr1 hr2
      refine lv_istore (lv' := [(8, .int x8), (0, .ref (q 53)), (1, .long b1), (3, .int b3), (4, .int b4), (5, .int b5), (6, .int b6), (7, .int b7)]) X.x X.b (dk DX12_mostApart_0 32 rfl) hl (by decide) rfl (fun ls hl => ?_)
      replace hl : lv_has ls 9 [(0, .ref (q 53)), (1, .long b1), (3, .int b3), (4, .int b4), (5, .int b5), (6, .int b6), (7, .int b7), (8, .int x8)] := lv_sub hl [1, 2, 3, 4, 5, 6, 7, 0] rfl
      refine lv_iload_n X.x X.b (dk DX12_mostApart_0 33 rfl) rfl (lv_at hl 2 rfl) ?_
      refine lv_iconst (v := (-1)) X.x X.b (dk DX12_mostApart_0 34 rfl) (by decide) ?_
      refine lv_icmp_eq (tgt := 68) X.x X.b (dk DX12_mostApart_0 35 rfl) (by decide) (fun c11 => ?_) (fun c11 => ?_)
      · replace hF := if_t hF c11
        refine lv_iload X.x X.b (dk DX12_mostApart_0 39 rfl) (lv_at hl 7 rfl) ?_
        refine lv_istore_n (lv' := [(3, .int x8), (0, .ref (q 53)), (1, .long b1), (4, .int b4), (5, .int b5), (6, .int b6), (7, .int b7), (8, .int x8)]) X.x X.b (dk DX12_mostApart_0 40 rfl) rfl hl (by decide) rfl (fun ls hl => ?_)
        replace hl : lv_has ls 9 [(0, .ref (q 53)), (1, .long b1), (3, .int x8), (5, .int b5), (6, .int b6), (7, .int b7), (8, .int x8)] := lv_sub hl [1, 2, 0, 4, 5, 6, 7] rfl
        refine lv_iload X.x X.b (dk DX12_mostApart_0 41 rfl) (lv_at hl 5 rfl) ?_
        refine lv_istore (lv' := [(4, .int b7), (0, .ref (q 53)), (1, .long b1), (3, .int x8), (5, .int b5), (6, .int b6), (7, .int b7), (8, .int x8)]) X.x X.b (dk DX12_mostApart_0 42 rfl) hl (by decide) rfl (fun ls hl => ?_)
        replace hl : lv_has ls 9 [(0, .ref (q 53)), (1, .long b1), (3, .int x8), (4, .int b7), (5, .int b5), (6, .int b6), (7, .int b7), (8, .int x8)] := lv_sub hl [1, 2, 3, 0, 4, 5, 6, 7] rfl
        refine lv_iload X.x X.b (dk DX12_mostApart_0 43 rfl) (lv_at hl 7 rfl) ?_
        refine lv_iload X.x X.b (dk DX12_mostApart_0 44 rfl) (lv_at hl 4 rfl) ?_
        refine lv_icmp_le (tgt := 90) X.x X.b (dk DX12_mostApart_0 45 rfl) (by decide) (fun c12 => ?_) (fun c12 => ?_)
        · replace hF := if_t hF c12
          obtain ⟨v13, e14⟩ : ∃ y : Int32, y = b7 + 1 := ⟨_, rfl⟩
          replace hF := bnd_e hF e14
          refine lv_iinc (v := v13) (lv' := [(7, .int v13), (0, .ref (q 53)), (1, .long b1), (3, .int x8), (4, .int b7), (5, .int b5), (6, .int b6), (8, .int x8)]) X.x X.b (dk DX12_mostApart_0 50 rfl) hl (k := 6) rfl (by rw [e14]; rfl) (by decide) rfl (fun ls hl => ?_)
          replace hl : lv_has ls 9 [(0, .ref (q 53)), (1, .long b1), (3, .int x8), (4, .int b7), (5, .int b5), (6, .int b6), (7, .int v13)] := lv_sub hl [1, 2, 3, 4, 5, 6, 0] rfl
          refine lv_goto (tgt := 22) X.x X.b (dk DX12_mostApart_0 51 rfl) (by decide) ?_
          exact (lp_l hF hx) _ _ _ hH (lv_sub hl [0, 1, 2, 3, 4, 5, 6] rfl) K0
        · replace hF := if_f hF c12
          refine lv_iload X.x X.b (dk DX12_mostApart_0 46 rfl) (lv_at hl 7 rfl) ?_
          refine lv_istore (lv' := [(5, .int x8), (0, .ref (q 53)), (1, .long b1), (3, .int x8), (4, .int b7), (6, .int b6), (7, .int b7), (8, .int x8)]) X.x X.b (dk DX12_mostApart_0 47 rfl) hl (by decide) rfl (fun ls hl => ?_)
          replace hl : lv_has ls 9 [(0, .ref (q 53)), (1, .long b1), (3, .int x8), (4, .int b7), (5, .int x8), (7, .int b7)] := lv_sub hl [1, 2, 3, 4, 0, 6] rfl
          refine lv_iload X.x X.b (dk DX12_mostApart_0 48 rfl) (lv_at hl 5 rfl) ?_
          refine lv_istore (lv' := [(6, .int b7), (0, .ref (q 53)), (1, .long b1), (3, .int x8), (4, .int b7), (5, .int x8), (7, .int b7)]) X.x X.b (dk DX12_mostApart_0 49 rfl) hl (by decide) rfl (fun ls hl => ?_)
          replace hl : lv_has ls 9 [(0, .ref (q 53)), (1, .long b1), (3, .int x8), (4, .int b7), (5, .int x8), (6, .int b7), (7, .int b7)] := lv_sub hl [1, 2, 3, 4, 5, 0, 6] rfl
          obtain ⟨v15, e16⟩ : ∃ y : Int32, y = b7 + 1 := ⟨_, rfl⟩
          replace hF := bnd_e hF e16
          refine lv_iinc (v := v15) (lv' := [(7, .int v15), (0, .ref (q 53)), (1, .long b1), (3, .int x8), (4, .int b7), (5, .int x8), (6, .int b7)]) X.x X.b (dk DX12_mostApart_0 50 rfl) hl (k := 6) rfl (by rw [e16]; rfl) (by decide) rfl (fun ls hl => ?_)
          replace hl : lv_has ls 9 [(0, .ref (q 53)), (1, .long b1), (3, .int x8), (4, .int b7), (5, .int x8), (6, .int b7), (7, .int v15)] := lv_sub hl [1, 2, 3, 4, 5, 6, 0] rfl
          refine lv_goto (tgt := 22) X.x X.b (dk DX12_mostApart_0 51 rfl) (by decide) ?_
          exact (lp_l hF hx) _ _ _ hH (lv_sub hl [0, 1, 2, 3, 4, 5, 6] rfl) K0
      · replace hF := if_f hF c11
        refine lv_iload X.x X.b (dk DX12_mostApart_0 36 rfl) (lv_at hl 7 rfl) ?_
        refine lv_iload_n X.x X.b (dk DX12_mostApart_0 37 rfl) rfl (lv_at hl 2 rfl) ?_
        refine lv_icmp_ge (tgt := 75) X.x X.b (dk DX12_mostApart_0 38 rfl) (by decide) (fun c17 => ?_) (fun c17 => ?_)
        · replace hF := if_t hF c17
          refine lv_iload X.x X.b (dk DX12_mostApart_0 43 rfl) (lv_at hl 7 rfl) ?_
          refine lv_iload X.x X.b (dk DX12_mostApart_0 44 rfl) (lv_at hl 4 rfl) ?_
          refine lv_icmp_le (tgt := 90) X.x X.b (dk DX12_mostApart_0 45 rfl) (by decide) (fun c18 => ?_) (fun c18 => ?_)
          · replace hF := if_t hF c18
            obtain ⟨v19, e20⟩ : ∃ y : Int32, y = b7 + 1 := ⟨_, rfl⟩
            replace hF := bnd_e hF e20
            refine lv_iinc (v := v19) (lv' := [(7, .int v19), (0, .ref (q 53)), (1, .long b1), (3, .int b3), (4, .int b4), (5, .int b5), (6, .int b6), (8, .int x8)]) X.x X.b (dk DX12_mostApart_0 50 rfl) hl (k := 6) rfl (by rw [e20]; rfl) (by decide) rfl (fun ls hl => ?_)
            replace hl : lv_has ls 9 [(0, .ref (q 53)), (1, .long b1), (3, .int b3), (4, .int b4), (5, .int b5), (6, .int b6), (7, .int v19)] := lv_sub hl [1, 2, 3, 4, 5, 6, 0] rfl
            refine lv_goto (tgt := 22) X.x X.b (dk DX12_mostApart_0 51 rfl) (by decide) ?_
            exact (lp_l hF hx) _ _ _ hH (lv_sub hl [0, 1, 2, 3, 4, 5, 6] rfl) K0
          · replace hF := if_f hF c18
            refine lv_iload X.x X.b (dk DX12_mostApart_0 46 rfl) (lv_at hl 7 rfl) ?_
            refine lv_istore (lv' := [(5, .int x8), (0, .ref (q 53)), (1, .long b1), (3, .int b3), (4, .int b4), (6, .int b6), (7, .int b7), (8, .int x8)]) X.x X.b (dk DX12_mostApart_0 47 rfl) hl (by decide) rfl (fun ls hl => ?_)
            replace hl : lv_has ls 9 [(0, .ref (q 53)), (1, .long b1), (3, .int b3), (4, .int b4), (5, .int x8), (7, .int b7)] := lv_sub hl [1, 2, 3, 4, 0, 6] rfl
            refine lv_iload X.x X.b (dk DX12_mostApart_0 48 rfl) (lv_at hl 5 rfl) ?_
            refine lv_istore (lv' := [(6, .int b7), (0, .ref (q 53)), (1, .long b1), (3, .int b3), (4, .int b4), (5, .int x8), (7, .int b7)]) X.x X.b (dk DX12_mostApart_0 49 rfl) hl (by decide) rfl (fun ls hl => ?_)
            replace hl : lv_has ls 9 [(0, .ref (q 53)), (1, .long b1), (3, .int b3), (4, .int b4), (5, .int x8), (6, .int b7), (7, .int b7)] := lv_sub hl [1, 2, 3, 4, 5, 0, 6] rfl
            obtain ⟨v21, e22⟩ : ∃ y : Int32, y = b7 + 1 := ⟨_, rfl⟩
            replace hF := bnd_e hF e22
            refine lv_iinc (v := v21) (lv' := [(7, .int v21), (0, .ref (q 53)), (1, .long b1), (3, .int b3), (4, .int b4), (5, .int x8), (6, .int b7)]) X.x X.b (dk DX12_mostApart_0 50 rfl) hl (k := 6) rfl (by rw [e22]; rfl) (by decide) rfl (fun ls hl => ?_)
            replace hl : lv_has ls 9 [(0, .ref (q 53)), (1, .long b1), (3, .int b3), (4, .int b4), (5, .int x8), (6, .int b7), (7, .int v21)] := lv_sub hl [1, 2, 3, 4, 5, 6, 0] rfl
            refine lv_goto (tgt := 22) X.x X.b (dk DX12_mostApart_0 51 rfl) (by decide) ?_
            exact (lp_l hF hx) _ _ _ hH (lv_sub hl [0, 1, 2, 3, 4, 5, 6] rfl) K0
        · replace hF := if_f hF c17
          refine lv_iload X.x X.b (dk DX12_mostApart_0 39 rfl) (lv_at hl 7 rfl) ?_
          refine lv_istore_n (lv' := [(3, .int x8), (0, .ref (q 53)), (1, .long b1), (4, .int b4), (5, .int b5), (6, .int b6), (7, .int b7), (8, .int x8)]) X.x X.b (dk DX12_mostApart_0 40 rfl) rfl hl (by decide) rfl (fun ls hl => ?_)
          replace hl : lv_has ls 9 [(0, .ref (q 53)), (1, .long b1), (3, .int x8), (5, .int b5), (6, .int b6), (7, .int b7), (8, .int x8)] := lv_sub hl [1, 2, 0, 4, 5, 6, 7] rfl
          refine lv_iload X.x X.b (dk DX12_mostApart_0 41 rfl) (lv_at hl 5 rfl) ?_
          refine lv_istore (lv' := [(4, .int b7), (0, .ref (q 53)), (1, .long b1), (3, .int x8), (5, .int b5), (6, .int b6), (7, .int b7), (8, .int x8)]) X.x X.b (dk DX12_mostApart_0 42 rfl) hl (by decide) rfl (fun ls hl => ?_)
          replace hl : lv_has ls 9 [(0, .ref (q 53)), (1, .long b1), (3, .int x8), (4, .int b7), (5, .int b5), (6, .int b6), (7, .int b7), (8, .int x8)] := lv_sub hl [1, 2, 3, 0, 4, 5, 6, 7] rfl
          refine lv_iload X.x X.b (dk DX12_mostApart_0 43 rfl) (lv_at hl 7 rfl) ?_
          refine lv_iload X.x X.b (dk DX12_mostApart_0 44 rfl) (lv_at hl 4 rfl) ?_
          refine lv_icmp_le (tgt := 90) X.x X.b (dk DX12_mostApart_0 45 rfl) (by decide) (fun c23 => ?_) (fun c23 => ?_)
          · replace hF := if_t hF c23
            obtain ⟨v24, e25⟩ : ∃ y : Int32, y = b7 + 1 := ⟨_, rfl⟩
            replace hF := bnd_e hF e25
            refine lv_iinc (v := v24) (lv' := [(7, .int v24), (0, .ref (q 53)), (1, .long b1), (3, .int x8), (4, .int b7), (5, .int b5), (6, .int b6), (8, .int x8)]) X.x X.b (dk DX12_mostApart_0 50 rfl) hl (k := 6) rfl (by rw [e25]; rfl) (by decide) rfl (fun ls hl => ?_)
            replace hl : lv_has ls 9 [(0, .ref (q 53)), (1, .long b1), (3, .int x8), (4, .int b7), (5, .int b5), (6, .int b6), (7, .int v24)] := lv_sub hl [1, 2, 3, 4, 5, 6, 0] rfl
            refine lv_goto (tgt := 22) X.x X.b (dk DX12_mostApart_0 51 rfl) (by decide) ?_
            exact (lp_l hF hx) _ _ _ hH (lv_sub hl [0, 1, 2, 3, 4, 5, 6] rfl) K0
          · replace hF := if_f hF c23
            refine lv_iload X.x X.b (dk DX12_mostApart_0 46 rfl) (lv_at hl 7 rfl) ?_
            refine lv_istore (lv' := [(5, .int x8), (0, .ref (q 53)), (1, .long b1), (3, .int x8), (4, .int b7), (6, .int b6), (7, .int b7), (8, .int x8)]) X.x X.b (dk DX12_mostApart_0 47 rfl) hl (by decide) rfl (fun ls hl => ?_)
            replace hl : lv_has ls 9 [(0, .ref (q 53)), (1, .long b1), (3, .int x8), (4, .int b7), (5, .int x8), (7, .int b7)] := lv_sub hl [1, 2, 3, 4, 0, 6] rfl
            refine lv_iload X.x X.b (dk DX12_mostApart_0 48 rfl) (lv_at hl 5 rfl) ?_
            refine lv_istore (lv' := [(6, .int b7), (0, .ref (q 53)), (1, .long b1), (3, .int x8), (4, .int b7), (5, .int x8), (7, .int b7)]) X.x X.b (dk DX12_mostApart_0 49 rfl) hl (by decide) rfl (fun ls hl => ?_)
            replace hl : lv_has ls 9 [(0, .ref (q 53)), (1, .long b1), (3, .int x8), (4, .int b7), (5, .int x8), (6, .int b7), (7, .int b7)] := lv_sub hl [1, 2, 3, 4, 5, 0, 6] rfl
            obtain ⟨v26, e27⟩ : ∃ y : Int32, y = b7 + 1 := ⟨_, rfl⟩
            replace hF := bnd_e hF e27
            refine lv_iinc (v := v26) (lv' := [(7, .int v26), (0, .ref (q 53)), (1, .long b1), (3, .int x8), (4, .int b7), (5, .int x8), (6, .int b7)]) X.x X.b (dk DX12_mostApart_0 50 rfl) hl (k := 6) rfl (by rw [e27]; rfl) (by decide) rfl (fun ls hl => ?_)
            replace hl : lv_has ls 9 [(0, .ref (q 53)), (1, .long b1), (3, .int x8), (4, .int b7), (5, .int x8), (6, .int b7), (7, .int v26)] := lv_sub hl [1, 2, 3, 4, 5, 6, 0] rfl
            refine lv_goto (tgt := 22) X.x X.b (dk DX12_mostApart_0 51 rfl) (by decide) ?_
            exact (lp_l hF hx) _ _ _ hH (lv_sub hl [0, 1, 2, 3, 4, 5, 6] rfl) K0
    · replace hF := if_t hF c6
      refine lv_goto (tgt := 90) X.x X.b (dk DX12_mostApart_0 24 rfl) (by decide) ?_
      obtain ⟨v28, e29⟩ : ∃ y : Int32, y = b7 + 1 := ⟨_, rfl⟩
      replace hF := bnd_e hF e29
      refine lv_iinc (v := v28) (lv' := [(7, .int v28), (0, .ref (q 53)), (1, .long b1), (3, .int b3), (4, .int b4), (5, .int b5), (6, .int b6)]) X.x X.b (dk DX12_mostApart_0 50 rfl) hl (k := 6) rfl (by rw [e29]; rfl) (by decide) rfl (fun ls hl => ?_)
      replace hl : lv_has ls 9 [(0, .ref (q 53)), (1, .long b1), (3, .int b3), (4, .int b4), (5, .int b5), (6, .int b6), (7, .int v28)] := lv_sub hl [1, 2, 3, 4, 5, 6, 0] rfl
      refine lv_goto (tgt := 22) X.x X.b (dk DX12_mostApart_0 51 rfl) (by decide) ?_
      exact (lp_l hF hx) _ _ _ hH (lv_sub hl [0, 1, 2, 3, 4, 5, 6] rfl) K0
set_option maxHeartbeats 4000000 in
set_option maxRecDepth 100000 in
theorem c_X12_mostApart {l : Launch} {G : mG} {h : mM} {q : Nat → Nat} (hq : oinj LX12 q) (d : Nat) : ∀ (st : OS) (a0 : Int64) (x : Int32), f_X12_mostApart d st a0 = some x → cQ l G yX12_mostApart cX12_mostApart 9 (some FieldType.int) (rm_X12_mostApart d) [.ref (q 53), .long a0] (oset LX12 G q st h) (mQi G (fun r h1 => r = x ∧ h1 = oset LX12 G q st h)) := by
  induction d with
  | zero => intro st a0 x hF; cases hF
  | succ d ih =>
    intro st a0 x hF
    have hF : f_X12_mostApart_T (f_X12_mostApart d) st a0 = some x := hF
    generalize f_X12_mostApart d = rec at hF ih
    refine mp_of (by decide +kernel) (Nat.le_of_ble_eq_true rfl) ?_
    intro p e s m below meth c X hr hlk hH hname ls hl
    dsimp only [f_X12_mostApart_T] at hF
    replace hl : lv_has ls 9 [(0, .ref (q 53)), (1, .long a0)] := hl
    refine lv_lload_n X.x X.b (dk DX12_mostApart_0 0 rfl) rfl (lv_at hl 1 rfl) ?_
    refine lv_lconst (v := 0) X.x X.b (dk DX12_mostApart_0 1 rfl) (by decide) ?_
    refine W.lcmp X.x X.b (dk DX12_mostApart_0 2 rfl) ?_
    refine lv_if_ne (tgt := 8) X.x X.b (dk DX12_mostApart_0 3 rfl) (by decide) (fun c1 => ?_) (fun c1 => ?_)
    · replace hF := if_f hF c1
      refine lv_iconst (v := (-1)) X.x X.b (dk DX12_mostApart_0 6 rfl) (by decide) ?_
      refine lv_istore_n (lv' := [(3, .int ((-1))), (0, .ref (q 53)), (1, .long a0)]) X.x X.b (dk DX12_mostApart_0 7 rfl) rfl hl (by decide) rfl (fun ls hl => ?_)
      replace hl : lv_has ls 9 [(0, .ref (q 53)), (1, .long a0), (3, .int ((-1)))] := lv_sub hl [1, 2, 0] rfl
      refine lv_iconst (v := 0) X.x X.b (dk DX12_mostApart_0 8 rfl) (by decide) ?_
      refine lv_istore (lv' := [(4, .int 0), (0, .ref (q 53)), (1, .long a0), (3, .int ((-1)))]) X.x X.b (dk DX12_mostApart_0 9 rfl) hl (by decide) rfl (fun ls hl => ?_)
      replace hl : lv_has ls 9 [(0, .ref (q 53)), (1, .long a0), (3, .int ((-1))), (4, .int 0)] := lv_sub hl [1, 2, 3, 0] rfl
      refine lv_iconst (v := 0) X.x X.b (dk DX12_mostApart_0 10 rfl) (by decide) ?_
      refine lv_istore (lv' := [(5, .int 0), (0, .ref (q 53)), (1, .long a0), (3, .int ((-1))), (4, .int 0)]) X.x X.b (dk DX12_mostApart_0 11 rfl) hl (by decide) rfl (fun ls hl => ?_)
      replace hl : lv_has ls 9 [(0, .ref (q 53)), (1, .long a0), (3, .int ((-1))), (4, .int 0), (5, .int 0)] := lv_sub hl [1, 2, 3, 4, 0] rfl
      refine lv_iconst (v := 0) X.x X.b (dk DX12_mostApart_0 12 rfl) (by decide) ?_
      refine lv_istore (lv' := [(6, .int 0), (0, .ref (q 53)), (1, .long a0), (3, .int ((-1))), (4, .int 0), (5, .int 0)]) X.x X.b (dk DX12_mostApart_0 13 rfl) hl (by decide) rfl (fun ls hl => ?_)
      replace hl : lv_has ls 9 [(0, .ref (q 53)), (1, .long a0), (3, .int ((-1))), (4, .int 0), (5, .int 0), (6, .int 0)] := lv_sub hl [1, 2, 3, 4, 5, 0] rfl
      refine lv_iconst (v := 0) X.x X.b (dk DX12_mostApart_0 14 rfl) (by decide) ?_
      refine lv_istore (lv' := [(7, .int 0), (0, .ref (q 53)), (1, .long a0), (3, .int ((-1))), (4, .int 0), (5, .int 0), (6, .int 0)]) X.x X.b (dk DX12_mostApart_0 15 rfl) hl (by decide) rfl (fun ls hl => ?_)
      replace hl : lv_has ls 9 [(0, .ref (q 53)), (1, .long a0), (3, .int ((-1))), (4, .int 0), (5, .int 0), (6, .int 0), (7, .int 0)] := lv_sub hl [1, 2, 3, 4, 5, 6, 0] rfl
      obtain ⟨x30, e31, hF⟩ := bd hF
      replace hl : lv_has ls 9 [(0, .ref (q 53)), (1, .long a0), (3, .int ((-1))), (4, .int 0), (5, .int 0), (6, .int 0), (7, .int 0)] := lv_sub hl [0, 1, 2, 3, 4, 5, 6] rfl
      obtain ⟨v32, v33, v34⟩ := x30
      try dsimp only at hF
      refine w_X12_mostApart_22 hq ih X st a0 _ _ e31 _ _ _ hH hl (fun H locs ls hH hl => ?_)
      try dsimp only at hH hl
      refine lv_iload_n X.x X.b (dk DX12_mostApart_0 52 rfl) rfl (lv_at hl 2 rfl) ?_
      refine lv_iconst (v := 1) X.x X.b (dk DX12_mostApart_0 53 rfl) (by decide) ?_
      refine lv_icmp_gt (tgt := 131) X.x X.b (dk DX12_mostApart_0 54 rfl) (by decide) (fun c35 => ?_) (fun c35 => ?_)
      · replace hF := if_t hF c35
        refine lv_iconst (v := 1) X.x X.b (dk DX12_mostApart_1 13 rfl) (by decide) ?_
        refine lv_aload_n X.x X.b (dk DX12_mostApart_1 14 rfl) rfl (lv_at hl 0 rfl) ?_
        refine lv_lload_n X.x X.b (dk DX12_mostApart_1 15 rfl) rfl (lv_at hl 1 rfl) ?_
        refine lv_aload_n X.x X.b (dk DX12_mostApart_1 16 rfl) rfl (lv_at hl 0 rfl) ?_
        refine og_getR (t := 1) OX12 X hq hH 20 (by decide) rfl kF_X12_30 (dk DX12_mostApart_1 17 rfl) ?_
        refine lv_iload X.x X.b (dk DX12_mostApart_1 18 rfl) (lv_at hl 4 rfl) ?_
        obtain ⟨c36, hF⟩ := gd hF
        refine og_lald X hq hH 20 (by decide) rfl (inb_in c36) (dk DX12_mostApart_1 19 rfl) ?_
        refine lv_ldc2 (v := (-1)) X.x X.b X.ow (X.ts _ kK_X12_109) (dk DX12_mostApart_1 20 rfl) ?_
        refine lv_lxor X.x X.b (dk DX12_mostApart_1 21 rfl) ?_
        refine lv_land X.x X.b (dk DX12_mostApart_1 22 rfl) ?_
        refine lv_iload X.x X.b (dk DX12_mostApart_1 23 rfl) (lv_at hl 4 rfl) ?_
        obtain ⟨x37, e38, hF⟩ := bd hF
        refine mr_cl0 hH ⟨rfl, rfl⟩ (mr_runS (As := [.int v34]) (rest := [.long (a0 &&& ((st.2.2.2 20 (v34 : Int32).toNatClampNeg) ^^^ ((-1)))), .ref (q 53), .int 1]) X hH (c_X12_bit e38) kM_X12_111 kT_X12_bit kN_X12 kC_X12_bit hd_X12_bit ⟨by dsimp only [rm_X12_mostApart, rm_X12_bit]; omega, by dsimp only [rm_X12_mostApart, rm_X12_bit]; omega⟩ rfl hl.1 (Nat.le_of_ble_eq_true rfl) (dk DX12_mostApart_1 24 rfl) ⟨Nat.zero_le _, Nat.zero_le _⟩) (fun r h1 H locs hp hH => ?_)
        obtain ⟨hr1, hr2⟩ := hp; rw [hr1]; rw [hr2] at hH; clear hr1 hr2
        refine lv_ldc2 (v := (-1)) X.x X.b X.ow (X.ts _ kK_X12_109) (dk DX12_mostApart_1 25 rfl) ?_
        refine lv_lxor X.x X.b (dk DX12_mostApart_1 26 rfl) ?_
        refine lv_land X.x X.b (dk DX12_mostApart_1 27 rfl) ?_
        obtain ⟨x40, e41, hF⟩ := bd hF
        refine mr_ci0 hH ⟨rfl, rfl⟩ (mr_runV (As := [.long ((a0 &&& ((st.2.2.2 20 (v34 : Int32).toNatClampNeg) ^^^ ((-1)))) &&& (x37 ^^^ ((-1))))]) (rest := [.int 1]) X hH (ih st ((a0 &&& ((st.2.2.2 20 (v34 : Int32).toNatClampNeg) ^^^ ((-1)))) &&& (x37 ^^^ ((-1)))) _ e41) ((oset_at hq (Nat.le_refl _) ohas_N).trans (congrArg some ocell_N)) OX12.1 kM_X12_338 kI_X12_mostApart kS_X12_mostApart kN_X12 kC_X12_mostApart hd_X12_mostApart ⟨by dsimp only [rm_X12_mostApart, rm_X12_mostApart]; omega, by dsimp only [rm_X12_mostApart, rm_X12_mostApart]; omega⟩ rfl hl.1 (Nat.le_of_ble_eq_true rfl) (dk DX12_mostApart_1 28 rfl) ⟨Nat.zero_le _, Nat.zero_le _⟩) (fun r h1 H locs hp hH => ?_)
        obtain ⟨hr1, hr2⟩ := hp; rw [hr1]; rw [hr2] at hH; clear hr1 hr2
        refine lv_iadd X.x X.b (dk DX12_mostApart_1 29 rfl) ?_
        refine lv_topi (fun v43 e44 => ?_)
        replace hF := bnd_e hF e44
        refine lv_istore (lv' := [(7, .int v43), (0, .ref (q 53)), (1, .long a0), (3, .int v32), (4, .int v33), (6, .int v34)]) X.x X.b (dk DX12_mostApart_1 30 rfl) hl (by decide) rfl (fun ls hl => ?_)
        replace hl : lv_has ls 9 [(0, .ref (q 53)), (1, .long a0), (6, .int v34), (7, .int v43)] := lv_sub hl [1, 2, 5, 0] rfl
        refine lv_iload X.x X.b (dk DX12_mostApart_1 31 rfl) (lv_at hl 3 rfl) ?_
        refine lv_aload_n X.x X.b (dk DX12_mostApart_1 32 rfl) rfl (lv_at hl 0 rfl) ?_
        refine lv_lload_n X.x X.b (dk DX12_mostApart_1 33 rfl) rfl (lv_at hl 1 rfl) ?_
        refine lv_iload X.x X.b (dk DX12_mostApart_1 34 rfl) (lv_at hl 2 rfl) ?_
        obtain ⟨x45, e46, hF⟩ := bd hF
        refine mr_cl0 hH ⟨rfl, rfl⟩ (mr_runS (As := [.int v34]) (rest := [.long a0, .ref (q 53), .int v43]) X hH (c_X12_bit e46) kM_X12_111 kT_X12_bit kN_X12 kC_X12_bit hd_X12_bit ⟨by dsimp only [rm_X12_mostApart, rm_X12_bit]; omega, by dsimp only [rm_X12_mostApart, rm_X12_bit]; omega⟩ rfl hl.1 (Nat.le_of_ble_eq_true rfl) (dk DX12_mostApart_1 35 rfl) ⟨Nat.zero_le _, Nat.zero_le _⟩) (fun r h1 H locs hp hH => ?_)
        obtain ⟨hr1, hr2⟩ := hp; rw [hr1]; rw [hr2] at hH; clear hr1 hr2
        refine lv_ldc2 (v := (-1)) X.x X.b X.ow (X.ts _ kK_X12_109) (dk DX12_mostApart_1 36 rfl) ?_
        refine lv_lxor X.x X.b (dk DX12_mostApart_1 37 rfl) ?_
        refine lv_land X.x X.b (dk DX12_mostApart_1 38 rfl) ?_
        obtain ⟨x48, e49, hF⟩ := bd hF
        refine mr_ci0 hH ⟨rfl, rfl⟩ (mr_runV (As := [.long (a0 &&& (x45 ^^^ ((-1))))]) (rest := [.int v43]) X hH (ih st (a0 &&& (x45 ^^^ ((-1)))) _ e49) ((oset_at hq (Nat.le_refl _) ohas_N).trans (congrArg some ocell_N)) OX12.1 kM_X12_338 kI_X12_mostApart kS_X12_mostApart kN_X12 kC_X12_mostApart hd_X12_mostApart ⟨by dsimp only [rm_X12_mostApart, rm_X12_mostApart]; omega, by dsimp only [rm_X12_mostApart, rm_X12_mostApart]; omega⟩ rfl hl.1 (Nat.le_of_ble_eq_true rfl) (dk DX12_mostApart_1 39 rfl) ⟨Nat.zero_le _, Nat.zero_le _⟩) (fun r h1 H locs hp hH => ?_)
        obtain ⟨hr1, hr2⟩ := hp; rw [hr1]; rw [hr2] at hH; clear hr1 hr2
        obtain ⟨x51, e52, hF⟩ := bd hF
        refine mr_ci0 hH ⟨rfl, rfl⟩ (mr_runS (As := [.int v43, .int x48]) (rest := []) X hH (c_J9_max_7cf53 e52) kM_X12_341 kT_J9_max_7cf53 kN_J9 kC_J9_max_7cf53 hd_J9_max_7cf53 ⟨by dsimp only [rm_X12_mostApart, rm_J9_max_7cf53]; omega, by dsimp only [rm_X12_mostApart, rm_J9_max_7cf53]; omega⟩ rfl hl.1 (Nat.le_of_ble_eq_true rfl) (dk DX12_mostApart_1 40 rfl) ⟨Nat.zero_le _, Nat.zero_le _⟩) (fun r h1 H locs hp hH => ?_)
        obtain ⟨hr1, hr2⟩ := hp; rw [hr1]; rw [hr2] at hH; clear hr1 hr2
        cases sm hF
        exact mr_iret X hr hlk hH ⟨rfl, rfl⟩ (dk DX12_mostApart_1 41 rfl)
      · replace hF := if_f hF c35
        refine lv_iconst (v := 1) X.x X.b (dk DX12_mostApart_0 55 rfl) (by decide) ?_
        refine lv_aload_n X.x X.b (dk DX12_mostApart_0 56 rfl) rfl (lv_at hl 0 rfl) ?_
        refine lv_lload_n X.x X.b (dk DX12_mostApart_0 57 rfl) rfl (lv_at hl 1 rfl) ?_
        refine lv_aload_n X.x X.b (dk DX12_mostApart_0 58 rfl) rfl (lv_at hl 0 rfl) ?_
        refine og_getR (t := 1) OX12 X hq hH 20 (by decide) rfl kF_X12_30 (dk DX12_mostApart_0 59 rfl) ?_
        refine lv_iload X.x X.b (dk DX12_mostApart_1 0 rfl) (lv_at hl 3 rfl) ?_
        obtain ⟨c54, hF⟩ := gd hF
        refine og_lald X hq hH 20 (by decide) rfl (inb_in c54) (dk DX12_mostApart_1 1 rfl) ?_
        refine lv_ldc2 (v := (-1)) X.x X.b X.ow (X.ts _ kK_X12_109) (dk DX12_mostApart_1 2 rfl) ?_
        refine lv_lxor X.x X.b (dk DX12_mostApart_1 3 rfl) ?_
        refine lv_land X.x X.b (dk DX12_mostApart_1 4 rfl) ?_
        refine lv_iload X.x X.b (dk DX12_mostApart_1 5 rfl) (lv_at hl 3 rfl) ?_
        obtain ⟨x55, e56, hF⟩ := bd hF
        refine mr_cl0 hH ⟨rfl, rfl⟩ (mr_runS (As := [.int v33]) (rest := [.long (a0 &&& ((st.2.2.2 20 (v33 : Int32).toNatClampNeg) ^^^ ((-1)))), .ref (q 53), .int 1]) X hH (c_X12_bit e56) kM_X12_111 kT_X12_bit kN_X12 kC_X12_bit hd_X12_bit ⟨by dsimp only [rm_X12_mostApart, rm_X12_bit]; omega, by dsimp only [rm_X12_mostApart, rm_X12_bit]; omega⟩ rfl hl.1 (Nat.le_of_ble_eq_true rfl) (dk DX12_mostApart_1 6 rfl) ⟨Nat.zero_le _, Nat.zero_le _⟩) (fun r h1 H locs hp hH => ?_)
        obtain ⟨hr1, hr2⟩ := hp; rw [hr1]; rw [hr2] at hH; clear hr1 hr2
        refine lv_ldc2 (v := (-1)) X.x X.b X.ow (X.ts _ kK_X12_109) (dk DX12_mostApart_1 7 rfl) ?_
        refine lv_lxor X.x X.b (dk DX12_mostApart_1 8 rfl) ?_
        refine lv_land X.x X.b (dk DX12_mostApart_1 9 rfl) ?_
        obtain ⟨x58, e59, hF⟩ := bd hF
        refine mr_ci0 hH ⟨rfl, rfl⟩ (mr_runV (As := [.long ((a0 &&& ((st.2.2.2 20 (v33 : Int32).toNatClampNeg) ^^^ ((-1)))) &&& (x55 ^^^ ((-1))))]) (rest := [.int 1]) X hH (ih st ((a0 &&& ((st.2.2.2 20 (v33 : Int32).toNatClampNeg) ^^^ ((-1)))) &&& (x55 ^^^ ((-1)))) _ e59) ((oset_at hq (Nat.le_refl _) ohas_N).trans (congrArg some ocell_N)) OX12.1 kM_X12_338 kI_X12_mostApart kS_X12_mostApart kN_X12 kC_X12_mostApart hd_X12_mostApart ⟨by dsimp only [rm_X12_mostApart, rm_X12_mostApart]; omega, by dsimp only [rm_X12_mostApart, rm_X12_mostApart]; omega⟩ rfl hl.1 (Nat.le_of_ble_eq_true rfl) (dk DX12_mostApart_1 10 rfl) ⟨Nat.zero_le _, Nat.zero_le _⟩) (fun r h1 H locs hp hH => ?_)
        obtain ⟨hr1, hr2⟩ := hp; rw [hr1]; rw [hr2] at hH; clear hr1 hr2
        refine lv_iadd X.x X.b (dk DX12_mostApart_1 11 rfl) ?_
        cases sm hF
        exact mr_iret X hr hlk hH ⟨rfl, rfl⟩ (dk DX12_mostApart_1 12 rfl)
    · replace hF := if_t hF c1
      refine lv_iconst (v := 0) X.x X.b (dk DX12_mostApart_0 4 rfl) (by decide) ?_
      cases sm hF
      exact mr_iret X hr hlk hH ⟨rfl, rfl⟩ (dk DX12_mostApart_0 5 rfl)
-- X12_cap
abbrev rm_X12_cap : Room := { frames := 42, cells := 0, slots := 0, locals := 1172 }
theorem hd_X12_cap : mHd yX12_cap 0 := ⟨by decide +kernel, by decide +kernel, by decide +kernel⟩
theorem DX12_cap_0 : ∀ t ∈ ([(0, .aload_n 0, 1), (1, .iconst 0, 1), (2, .putfield 106, 3), (5, .aload_n 0, 1), (6, .getfield 248, 3), (9, .bipush 27, 2), (11, .if_icmp .le 7, 3), (14, .ldc2_w 109, 3), (17, .lreturn, 1), (18, .aload_n 0, 1), (19, .invokevirtual 272, 3), (22, .aload_n 0, 1), (23, .invokevirtual 259, 3), (26, .lstore_n 1, 1), (27, .lconst 0, 1), (28, .lstore_n 3, 1), (29, .aload_n 0, 1), (30, .lload_n 1, 1), (31, .invokevirtual 338, 3), (34, .istore 5, 2), (36, .aload_n 0, 1), (37, .getfield 248, 3), (40, .iconst 1, 1), (41, .isub, 1), (42, .istore 6, 2), (44, .iload 6, 2), (46, .ifCond .lt 71, 3), (49, .lload_n 1, 1), (50, .iload 6, 2), (52, .invokestatic 232, 3), (55, .ifCond .ne 6, 3), (58, .goto 53, 3), (61, .lload_n 1, 1), (62, .iload 6, 2), (64, .invokestatic 111, 3), (67, .ldc2_w 109, 3), (70, .lxor, 1), (71, .land, 1), (72, .lstore_n 1, 1), (73, .aload_n 0, 1), (74, .lload_n 1, 1), (75, .invokevirtual 338, 3), (78, .iload 5, 2), (80, .if_icmp .ne 6, 3), (83, .goto 28, 3), (86, .lload_n 3, 1), (87, .iload 6, 2), (89, .invokestatic 111, 3), (92, .lor, 1), (93, .lstore_n 3, 1), (94, .lload_n 1, 1), (95, .aload_n 0, 1), (96, .getfield 30, 3), (99, .iload 6, 2), (101, .laload, 1), (102, .ldc2_w 109, 3), (105, .lxor, 1), (106, .land, 1), (107, .lstore_n 1, 1), (108, .iinc 5 (-1), 3)] : List (Nat × Instr × Nat)), decode cX12_cap t.1 = .ok (t.2.1, t.2.2) := by decide +kernel
theorem DX12_cap_1 : ∀ t ∈ ([(111, .iinc 6 (-1), 3), (114, .goto (-70), 3), (117, .lload_n 3, 1), (118, .lreturn, 1)] : List (Nat × Instr × Nat)), decode cX12_cap t.1 = .ok (t.2.1, t.2.2) := by decide +kernel
noncomputable def f_X12_cap_44 (s_t : OS) : (Int64 × Int64 × Int32 × Int32) → Option ((Int64 × Int64 × Int32 × Int32) ⊕ (Int64)) := fun z => match z with | (b1, b3, b5, b6) => (if b6 < 0 then some (.inr b3) else (f_X12_has b1 b6).bind (fun x16 => (if x16 = 0 then bnd (b6 + (-1) : Int32) (fun v43 => some (.inl ((b1, b3, b5, v43)))) else (f_X12_bit b6).bind (fun x20 => bnd (b1 &&& (x20 ^^^ ((-1))) : Int64) (fun v23 => (f_X12_mostApart 40 s_t v23).bind (fun x25 => (if x25 = b5 then bnd (b6 + (-1) : Int32) (fun v41 => some (.inl ((v23, b3, b5, v41)))) else (f_X12_bit b6).bind (fun x29 => bnd (b3 ||| x29 : Int64) (fun v32 => if inb b6 64 = true then bnd (v23 &&& ((s_t.2.2.2 20 (b6 : Int32).toNatClampNeg) ^^^ ((-1))) : Int64) (fun v35 => bnd (b5 + (-1) : Int32) (fun v37 => bnd (b6 + (-1) : Int32) (fun v39 => some (.inl ((v35, v32, v37, v39)))))) else none)))))))))
noncomputable def f_X12_cap (st : OS) : Option (Int64 × OS) := bnd (oI st 2 0) (fun t1 => (if (t1.1 0) ≤ 27 then (f_X12_layNears t1).bind (fun x4 => (f_X12_all x4).bind (fun x7 => (f_X12_mostApart 40 x4 x7).bind (fun x10 => bnd ((x4.1 0) - 1 : Int32) (fun v13 => (lpv (f_X12_cap_44 x4) ((x7, 0, x10, v13))).bind (fun x45 => some ((x45, x4))))))) else some (((-1), t1))))
set_option maxHeartbeats 4000000 in
set_option maxRecDepth 100000 in
theorem w_X12_cap_44 {p : Program} {l : Launch} {e : Env} {s : State} {m : MethodId} {args : Array Value} {below : List Frame} {meth : Method} {c : Code} {Q : State → Prop} {G : mG} {h : mM} {q : Nat → Nat} (hq : oinj LX12 q) (X : mX G p m c cX12_cap 7 s args RX12) (s_t : OS) : ∀ (z : Int64 × Int64 × Int32 × Int32) (r : Int64), lpv (f_X12_cap_44 s_t) z = some r → ∀ (H : Heap) (locs : List Loc) (ls : Array Slot), mH G (oset LX12 G q s_t h) s.heap H locs → lv_has ls 7 [(0, .ref (q 53)), (1, .long z.1), (3, .long z.2.1), (5, .int z.2.2.1), (6, .int z.2.2.2)] → (∀ (H : Heap) (locs : List Loc) (ls : Array Slot), mH G (oset LX12 G q s_t h) s.heap H locs → lv_has ls 7 [(3, .long r)] → W p l e rm_X12_cap s m args below meth c H locs 0 0 Q (F0 m 117 ls [])) → W p l e rm_X12_cap s m args below meth c H locs 0 0 Q (F0 m 44 ls []) := by
  refine lpv_rec ?_
  intro z r x hF hx H locs ls hH hl K0
  obtain ⟨b1, b3, b5, b6⟩ := z
  dsimp only [f_X12_cap_44] at hF
  try dsimp only at hH hl
  refine lv_iload X.x X.b (dk DX12_cap_0 25 rfl) (lv_at hl 4 rfl) ?_
  refine lv_if_lt (tgt := 117) X.x X.b (dk DX12_cap_0 26 rfl) (by decide) (fun c15 => ?_) (fun c15 => ?_)
  · replace hF := if_t hF c15
    have hr9 := lp_r hF hx
    subst hr9
    exact K0 _ _ _ hH (lv_sub hl [2] rfl)
  · replace hF := if_f hF c15
    refine lv_lload_n X.x X.b (dk DX12_cap_0 27 rfl) rfl (lv_at hl 1 rfl) ?_
    refine lv_iload X.x X.b (dk DX12_cap_0 28 rfl) (lv_at hl 4 rfl) ?_
    obtain ⟨x16, e17, hF⟩ := bd hF
    refine mr_ci0 hH ⟨rfl, rfl⟩ (mr_runS (As := [.long b1, .int b6]) (rest := []) X hH (c_X12_has e17) kM_X12_232 kT_X12_has kN_X12 kC_X12_has hd_X12_has ⟨Nat.le_of_ble_eq_true rfl, Nat.le_of_ble_eq_true rfl⟩ rfl hl.1 (Nat.le_of_ble_eq_true rfl) (dk DX12_cap_0 29 rfl) ⟨Nat.zero_le _, Nat.zero_le _⟩) (fun r h1 H locs hp hH => ?_)
    obtain ⟨hr1, hr2⟩ := hp; rw [hr1]; rw [hr2] at hH; clear hr1 hr2
    refine lv_if_ne (tgt := 61) X.x X.b (dk DX12_cap_0 30 rfl) (by decide) (fun c19 => ?_) (fun c19 => ?_)
    · replace hF := if_f hF c19
      refine lv_lload_n X.x X.b (dk DX12_cap_0 32 rfl) rfl (lv_at hl 1 rfl) ?_
      refine lv_iload X.x X.b (dk DX12_cap_0 33 rfl) (lv_at hl 4 rfl) ?_
      obtain ⟨x20, e21, hF⟩ := bd hF
      refine mr_cl0 hH ⟨rfl, rfl⟩ (mr_runS (As := [.int b6]) (rest := [.long b1]) X hH (c_X12_bit e21) kM_X12_111 kT_X12_bit kN_X12 kC_X12_bit hd_X12_bit ⟨Nat.le_of_ble_eq_true rfl, Nat.le_of_ble_eq_true rfl⟩ rfl hl.1 (Nat.le_of_ble_eq_true rfl) (dk DX12_cap_0 34 rfl) ⟨Nat.zero_le _, Nat.zero_le _⟩) (fun r h1 H locs hp hH => ?_)
      obtain ⟨hr1, hr2⟩ := hp; rw [hr1]; rw [hr2] at hH; clear hr1 hr2
      refine lv_ldc2 (v := (-1)) X.x X.b X.ow (X.ts _ kK_X12_109) (dk DX12_cap_0 35 rfl) ?_
      refine lv_lxor X.x X.b (dk DX12_cap_0 36 rfl) ?_
      refine lv_land X.x X.b (dk DX12_cap_0 37 rfl) ?_
      refine lv_topl (fun v23 e24 => ?_)
      replace hF := bnd_e hF e24
      refine lv_lstore_n (lv' := [(1, .long v23), (0, .ref (q 53)), (3, .long b3), (5, .int b5), (6, .int b6)]) X.x X.b (dk DX12_cap_0 38 rfl) rfl hl (by decide) rfl (fun ls hl => ?_)
      replace hl : lv_has ls 7 [(0, .ref (q 53)), (1, .long v23), (3, .long b3), (5, .int b5), (6, .int b6)] := lv_sub hl [1, 0, 2, 3, 4] rfl
      refine lv_aload_n X.x X.b (dk DX12_cap_0 39 rfl) rfl (lv_at hl 0 rfl) ?_
      refine lv_lload_n X.x X.b (dk DX12_cap_0 40 rfl) rfl (lv_at hl 1 rfl) ?_
      obtain ⟨x25, e26, hF⟩ := bd hF
      refine mr_ci0 hH ⟨rfl, rfl⟩ (mr_runV (As := [.long v23]) (rest := []) X hH (c_X12_mostApart hq 40 s_t v23 _ e26) ((oset_at hq (Nat.le_refl _) ohas_N).trans (congrArg some ocell_N)) OX12.1 kM_X12_338 kI_X12_mostApart kS_X12_mostApart kN_X12 kC_X12_mostApart hd_X12_mostApart ⟨Nat.le_of_ble_eq_true rfl, Nat.le_of_ble_eq_true rfl⟩ rfl hl.1 (Nat.le_of_ble_eq_true rfl) (dk DX12_cap_0 41 rfl) ⟨Nat.zero_le _, Nat.zero_le _⟩) (fun r h1 H locs hp hH => ?_)
      obtain ⟨hr1, hr2⟩ := hp; rw [hr1]; rw [hr2] at hH; clear hr1 hr2
      refine lv_iload X.x X.b (dk DX12_cap_0 42 rfl) (lv_at hl 3 rfl) ?_
      refine lv_icmp_ne (tgt := 86) X.x X.b (dk DX12_cap_0 43 rfl) (by decide) (fun c28 => ?_) (fun c28 => ?_)
      · replace hF := if_f hF c28
        refine lv_lload_n X.x X.b (dk DX12_cap_0 45 rfl) rfl (lv_at hl 2 rfl) ?_
        refine lv_iload X.x X.b (dk DX12_cap_0 46 rfl) (lv_at hl 4 rfl) ?_
        obtain ⟨x29, e30, hF⟩ := bd hF
        refine mr_cl0 hH ⟨rfl, rfl⟩ (mr_runS (As := [.int b6]) (rest := [.long b3]) X hH (c_X12_bit e30) kM_X12_111 kT_X12_bit kN_X12 kC_X12_bit hd_X12_bit ⟨Nat.le_of_ble_eq_true rfl, Nat.le_of_ble_eq_true rfl⟩ rfl hl.1 (Nat.le_of_ble_eq_true rfl) (dk DX12_cap_0 47 rfl) ⟨Nat.zero_le _, Nat.zero_le _⟩) (fun r h1 H locs hp hH => ?_)
        obtain ⟨hr1, hr2⟩ := hp; rw [hr1]; rw [hr2] at hH; clear hr1 hr2
        refine lv_lor X.x X.b (dk DX12_cap_0 48 rfl) ?_
        refine lv_topl (fun v32 e33 => ?_)
        replace hF := bnd_e hF e33
        refine lv_lstore_n (lv' := [(3, .long v32), (0, .ref (q 53)), (1, .long v23), (5, .int b5), (6, .int b6)]) X.x X.b (dk DX12_cap_0 49 rfl) rfl hl (by decide) rfl (fun ls hl => ?_)
        replace hl : lv_has ls 7 [(0, .ref (q 53)), (1, .long v23), (3, .long v32), (5, .int b5), (6, .int b6)] := lv_sub hl [1, 2, 0, 3, 4] rfl
        refine lv_lload_n X.x X.b (dk DX12_cap_0 50 rfl) rfl (lv_at hl 1 rfl) ?_
        refine lv_aload_n X.x X.b (dk DX12_cap_0 51 rfl) rfl (lv_at hl 0 rfl) ?_
        refine og_getR (t := 1) OX12 X hq hH 20 (by decide) rfl kF_X12_30 (dk DX12_cap_0 52 rfl) ?_
        refine lv_iload X.x X.b (dk DX12_cap_0 53 rfl) (lv_at hl 4 rfl) ?_
        obtain ⟨c34, hF⟩ := gd hF
        refine og_lald X hq hH 20 (by decide) rfl (inb_in c34) (dk DX12_cap_0 54 rfl) ?_
        refine lv_ldc2 (v := (-1)) X.x X.b X.ow (X.ts _ kK_X12_109) (dk DX12_cap_0 55 rfl) ?_
        refine lv_lxor X.x X.b (dk DX12_cap_0 56 rfl) ?_
        refine lv_land X.x X.b (dk DX12_cap_0 57 rfl) ?_
        refine lv_topl (fun v35 e36 => ?_)
        replace hF := bnd_e hF e36
        refine lv_lstore_n (lv' := [(1, .long v35), (0, .ref (q 53)), (3, .long v32), (5, .int b5), (6, .int b6)]) X.x X.b (dk DX12_cap_0 58 rfl) rfl hl (by decide) rfl (fun ls hl => ?_)
        replace hl : lv_has ls 7 [(0, .ref (q 53)), (1, .long v35), (3, .long v32), (5, .int b5), (6, .int b6)] := lv_sub hl [1, 0, 2, 3, 4] rfl
        obtain ⟨v37, e38⟩ : ∃ y : Int32, y = b5 + (-1) := ⟨_, rfl⟩
        replace hF := bnd_e hF e38
        refine lv_iinc (v := v37) (lv' := [(5, .int v37), (0, .ref (q 53)), (1, .long v35), (3, .long v32), (6, .int b6)]) X.x X.b (dk DX12_cap_0 59 rfl) hl (k := 3) rfl (by rw [e38]; rfl) (by decide) rfl (fun ls hl => ?_)
        replace hl : lv_has ls 7 [(0, .ref (q 53)), (1, .long v35), (3, .long v32), (5, .int v37), (6, .int b6)] := lv_sub hl [1, 2, 3, 0, 4] rfl
        obtain ⟨v39, e40⟩ : ∃ y : Int32, y = b6 + (-1) := ⟨_, rfl⟩
        replace hF := bnd_e hF e40
        refine lv_iinc (v := v39) (lv' := [(6, .int v39), (0, .ref (q 53)), (1, .long v35), (3, .long v32), (5, .int v37)]) X.x X.b (dk DX12_cap_1 0 rfl) hl (k := 4) rfl (by rw [e40]; rfl) (by decide) rfl (fun ls hl => ?_)
        replace hl : lv_has ls 7 [(0, .ref (q 53)), (1, .long v35), (3, .long v32), (5, .int v37), (6, .int v39)] := lv_sub hl [1, 2, 3, 4, 0] rfl
        refine lv_goto (tgt := 44) X.x X.b (dk DX12_cap_1 1 rfl) (by decide) ?_
        exact (lp_l hF hx) _ _ _ hH (lv_sub hl [0, 1, 2, 3, 4] rfl) K0
      · replace hF := if_t hF c28
        refine lv_goto (tgt := 111) X.x X.b (dk DX12_cap_0 44 rfl) (by decide) ?_
        obtain ⟨v41, e42⟩ : ∃ y : Int32, y = b6 + (-1) := ⟨_, rfl⟩
        replace hF := bnd_e hF e42
        refine lv_iinc (v := v41) (lv' := [(6, .int v41), (0, .ref (q 53)), (1, .long v23), (3, .long b3), (5, .int b5)]) X.x X.b (dk DX12_cap_1 0 rfl) hl (k := 4) rfl (by rw [e42]; rfl) (by decide) rfl (fun ls hl => ?_)
        replace hl : lv_has ls 7 [(0, .ref (q 53)), (1, .long v23), (3, .long b3), (5, .int b5), (6, .int v41)] := lv_sub hl [1, 2, 3, 4, 0] rfl
        refine lv_goto (tgt := 44) X.x X.b (dk DX12_cap_1 1 rfl) (by decide) ?_
        exact (lp_l hF hx) _ _ _ hH (lv_sub hl [0, 1, 2, 3, 4] rfl) K0
    · replace hF := if_t hF c19
      refine lv_goto (tgt := 111) X.x X.b (dk DX12_cap_0 31 rfl) (by decide) ?_
      obtain ⟨v43, e44⟩ : ∃ y : Int32, y = b6 + (-1) := ⟨_, rfl⟩
      replace hF := bnd_e hF e44
      refine lv_iinc (v := v43) (lv' := [(6, .int v43), (0, .ref (q 53)), (1, .long b1), (3, .long b3), (5, .int b5)]) X.x X.b (dk DX12_cap_1 0 rfl) hl (k := 4) rfl (by rw [e44]; rfl) (by decide) rfl (fun ls hl => ?_)
      replace hl : lv_has ls 7 [(0, .ref (q 53)), (1, .long b1), (3, .long b3), (5, .int b5), (6, .int v43)] := lv_sub hl [1, 2, 3, 4, 0] rfl
      refine lv_goto (tgt := 44) X.x X.b (dk DX12_cap_1 1 rfl) (by decide) ?_
      exact (lp_l hF hx) _ _ _ hH (lv_sub hl [0, 1, 2, 3, 4] rfl) K0
set_option maxHeartbeats 4000000 in
set_option maxRecDepth 100000 in
theorem c_X12_cap {l : Launch} {G : mG} {h : mM} {q : Nat → Nat} (hq : oinj LX12 q) {st : OS} {x : Int64 × OS} (hF : f_X12_cap st = some x) : cQ l G yX12_cap cX12_cap 7 (some FieldType.long) rm_X12_cap [.ref (q 53)] (oset LX12 G q st h) (mQl G (fun r h1 => r = x.1 ∧ h1 = oset LX12 G q x.2 h)) := by
  refine mp_of (by decide +kernel) (Nat.le_of_ble_eq_true rfl) ?_
  intro p e s m below meth c X hr hlk hH hname ls hl
  dsimp only [f_X12_cap] at hF
  replace hl : lv_has ls 7 [(0, .ref (q 53))] := hl
  refine lv_aload_n X.x X.b (dk DX12_cap_0 0 rfl) rfl (lv_at hl 0 rfl) ?_
  refine lv_iconst (v := 0) X.x X.b (dk DX12_cap_0 1 rfl) (by decide) ?_
  refine og_putI OX12 X hq hH 2 (by decide) rfl kF_X12_106 rfl rfl rfl (dk DX12_cap_0 2 rfl) (fun H locs hH => ?_)
  obtain ⟨t1, e2⟩ : ∃ y, y = oI st 2 0 := ⟨_, rfl⟩
  rw [← e2] at hH
  replace hF := bnd_e hF e2
  refine lv_aload_n X.x X.b (dk DX12_cap_0 3 rfl) rfl (lv_at hl 0 rfl) ?_
  refine og_getI OX12 X hq hH 0 (by decide) rfl kF_X12_248 (dk DX12_cap_0 4 rfl) ?_
  refine lv_bipush (v := 27) X.x X.b (dk DX12_cap_0 5 rfl) (by decide) ?_
  refine lv_icmp_le (tgt := 18) X.x X.b (dk DX12_cap_0 6 rfl) (by decide) (fun c3 => ?_) (fun c3 => ?_)
  · replace hF := if_t hF c3
    refine lv_aload_n X.x X.b (dk DX12_cap_0 9 rfl) rfl (lv_at hl 0 rfl) ?_
    obtain ⟨x4, e5, hF⟩ := bd hF
    refine mr_cv0 hH ⟨rfl, rfl⟩ (mr_runV (As := []) (rest := []) X hH (c_X12_layNears hq e5) ((oset_at hq (Nat.le_refl _) ohas_N).trans (congrArg some ocell_N)) OX12.1 kM_X12_272 kI_X12_layNears kS_X12_layNears kN_X12 kC_X12_layNears hd_X12_layNears ⟨Nat.le_of_ble_eq_true rfl, Nat.le_of_ble_eq_true rfl⟩ rfl hl.1 (Nat.le_of_ble_eq_true rfl) (dk DX12_cap_0 10 rfl) ⟨Nat.zero_le _, Nat.zero_le _⟩) (fun h1 H locs hp hH => ?_)
    rw [hp] at hH; clear hp
    refine lv_aload_n X.x X.b (dk DX12_cap_0 11 rfl) rfl (lv_at hl 0 rfl) ?_
    obtain ⟨x7, e8, hF⟩ := bd hF
    refine mr_cl0 hH ⟨rfl, rfl⟩ (mr_runV (As := []) (rest := []) X hH (c_X12_all hq e8) ((oset_at hq (Nat.le_refl _) ohas_N).trans (congrArg some ocell_N)) OX12.1 kM_X12_259 kI_X12_all kS_X12_all kN_X12 kC_X12_all hd_X12_all ⟨Nat.le_of_ble_eq_true rfl, Nat.le_of_ble_eq_true rfl⟩ rfl hl.1 (Nat.le_of_ble_eq_true rfl) (dk DX12_cap_0 12 rfl) ⟨Nat.zero_le _, Nat.zero_le _⟩) (fun r h1 H locs hp hH => ?_)
    obtain ⟨hr1, hr2⟩ := hp; rw [hr1]; rw [hr2] at hH; clear hr1 hr2
    refine lv_lstore_n (lv' := [(1, .long x7), (0, .ref (q 53))]) X.x X.b (dk DX12_cap_0 13 rfl) rfl hl (by decide) rfl (fun ls hl => ?_)
    replace hl : lv_has ls 7 [(0, .ref (q 53)), (1, .long x7)] := lv_sub hl [1, 0] rfl
    refine lv_lconst (v := 0) X.x X.b (dk DX12_cap_0 14 rfl) (by decide) ?_
    refine lv_lstore_n (lv' := [(3, .long 0), (0, .ref (q 53)), (1, .long x7)]) X.x X.b (dk DX12_cap_0 15 rfl) rfl hl (by decide) rfl (fun ls hl => ?_)
    replace hl : lv_has ls 7 [(0, .ref (q 53)), (1, .long x7), (3, .long 0)] := lv_sub hl [1, 2, 0] rfl
    refine lv_aload_n X.x X.b (dk DX12_cap_0 16 rfl) rfl (lv_at hl 0 rfl) ?_
    refine lv_lload_n X.x X.b (dk DX12_cap_0 17 rfl) rfl (lv_at hl 1 rfl) ?_
    obtain ⟨x10, e11, hF⟩ := bd hF
    refine mr_ci0 hH ⟨rfl, rfl⟩ (mr_runV (As := [.long x7]) (rest := []) X hH (c_X12_mostApart hq 40 x4 x7 _ e11) ((oset_at hq (Nat.le_refl _) ohas_N).trans (congrArg some ocell_N)) OX12.1 kM_X12_338 kI_X12_mostApart kS_X12_mostApart kN_X12 kC_X12_mostApart hd_X12_mostApart ⟨Nat.le_of_ble_eq_true rfl, Nat.le_of_ble_eq_true rfl⟩ rfl hl.1 (Nat.le_of_ble_eq_true rfl) (dk DX12_cap_0 18 rfl) ⟨Nat.zero_le _, Nat.zero_le _⟩) (fun r h1 H locs hp hH => ?_)
    obtain ⟨hr1, hr2⟩ := hp; rw [hr1]; rw [hr2] at hH; clear hr1 hr2
    refine lv_istore (lv' := [(5, .int x10), (0, .ref (q 53)), (1, .long x7), (3, .long 0)]) X.x X.b (dk DX12_cap_0 19 rfl) hl (by decide) rfl (fun ls hl => ?_)
    replace hl : lv_has ls 7 [(0, .ref (q 53)), (1, .long x7), (3, .long 0), (5, .int x10)] := lv_sub hl [1, 2, 3, 0] rfl
    refine lv_aload_n X.x X.b (dk DX12_cap_0 20 rfl) rfl (lv_at hl 0 rfl) ?_
    refine og_getI OX12 X hq hH 0 (by decide) rfl kF_X12_248 (dk DX12_cap_0 21 rfl) ?_
    refine lv_iconst (v := 1) X.x X.b (dk DX12_cap_0 22 rfl) (by decide) ?_
    refine lv_isub X.x X.b (dk DX12_cap_0 23 rfl) ?_
    refine lv_topi (fun v13 e14 => ?_)
    replace hF := bnd_e hF e14
    refine lv_istore (lv' := [(6, .int v13), (0, .ref (q 53)), (1, .long x7), (3, .long 0), (5, .int x10)]) X.x X.b (dk DX12_cap_0 24 rfl) hl (by decide) rfl (fun ls hl => ?_)
    replace hl : lv_has ls 7 [(0, .ref (q 53)), (1, .long x7), (3, .long 0), (5, .int x10), (6, .int v13)] := lv_sub hl [1, 2, 3, 4, 0] rfl
    obtain ⟨x45, e46, hF⟩ := bd hF
    replace hl : lv_has ls 7 [(0, .ref (q 53)), (1, .long x7), (3, .long 0), (5, .int x10), (6, .int v13)] := lv_sub hl [0, 1, 2, 3, 4] rfl
    refine w_X12_cap_44 hq X x4 _ _ e46 _ _ _ hH hl (fun H locs ls hH hl => ?_)
    refine lv_lload_n X.x X.b (dk DX12_cap_1 2 rfl) rfl (lv_at hl 0 rfl) ?_
    cases sm hF
    exact mr_lret X hr hlk hH ⟨rfl, rfl⟩ (dk DX12_cap_1 3 rfl)
  · replace hF := if_f hF c3
    refine lv_ldc2 (v := (-1)) X.x X.b X.ow (X.ts _ kK_X12_109) (dk DX12_cap_0 7 rfl) ?_
    cases sm hF
    exact mr_lret X hr hlk hH ⟨rfl, rfl⟩ (dk DX12_cap_0 8 rfl)
-- X12_triads
abbrev rm_X12_triads : Room := { frames := 2, cells := 0, slots := 0, locals := 44 }
theorem hd_X12_triads : mHd yX12_triads 1 := ⟨by decide +kernel, by decide +kernel, by decide +kernel⟩
theorem DX12_triads_0 : ∀ t ∈ ([(0, .aload_n 0, 1), (1, .iconst 0, 1), (2, .putfield 106, 3), (5, .aload_n 0, 1), (6, .invokevirtual 272, 3), (9, .iconst 0, 1), (10, .istore_n 2, 1), (11, .iconst 0, 1), (12, .istore_n 3, 1), (13, .iload_n 3, 1), (14, .aload_n 0, 1), (15, .getfield 248, 3), (18, .if_icmp .ge 138, 3), (21, .iload_n 3, 1), (22, .iconst 1, 1), (23, .iadd, 1), (24, .istore 4, 2), (26, .iload 4, 2), (28, .aload_n 0, 1), (29, .getfield 248, 3), (32, .if_icmp .ge 118, 3), (35, .iload 4, 2), (37, .iconst 1, 1), (38, .iadd, 1), (39, .istore 5, 2), (41, .iload 5, 2), (43, .aload_n 0, 1), (44, .getfield 248, 3), (47, .if_icmp .ge 97, 3), (50, .aload_n 0, 1), (51, .getfield 30, 3), (54, .iload_n 3, 1), (55, .laload, 1), (56, .iload 4, 2), (58, .invokestatic 232, 3), (61, .ifCond .ne 83, 3), (64, .aload_n 0, 1), (65, .getfield 30, 3), (68, .iload_n 3, 1), (69, .laload, 1), (70, .iload 5, 2), (72, .invokestatic 232, 3), (75, .ifCond .ne 63, 3), (78, .aload_n 0, 1), (79, .getfield 30, 3), (82, .iload 4, 2), (84, .laload, 1), (85, .iload 5, 2), (87, .invokestatic 232, 3), (90, .ifCond .eq 6, 3), (93, .goto 45, 3), (96, .iload_n 2, 1), (97, .iload_n 1, 1), (98, .iconst (-1), 1), (99, .if_icmp .eq 32, 3), (102, .aload_n 0, 1), (103, .getfield 30, 3), (106, .iload_n 3, 1), (107, .laload, 1), (108, .aload_n 0, 1)] : List (Nat × Instr × Nat)), decode cX12_triads t.1 = .ok (t.2.1, t.2.2) := by decide +kernel
theorem DX12_triads_1 : ∀ t ∈ ([(109, .getfield 30, 3), (112, .iload 4, 2), (114, .laload, 1), (115, .land, 1), (116, .aload_n 0, 1), (117, .getfield 30, 3), (120, .iload 5, 2), (122, .laload, 1), (123, .land, 1), (124, .invokestatic 283, 3), (127, .iload_n 1, 1), (128, .if_icmp .ne 7, 3), (131, .iconst 1, 1), (132, .goto 4, 3), (135, .iconst 0, 1), (136, .iadd, 1), (137, .istore_n 2, 1), (138, .iinc 5 1, 3), (141, .goto (-100), 3), (144, .iinc 4 1, 3), (147, .goto (-121), 3), (150, .iinc 3 1, 3), (153, .goto (-140), 3), (156, .iload_n 2, 1), (157, .ireturn, 1)] : List (Nat × Instr × Nat)), decode cX12_triads t.1 = .ok (t.2.1, t.2.2) := by decide +kernel
noncomputable def f_X12_triads_41 (s_t : OS) (b1 : Int32) (b3 : Int32) (b4 : Int32) : (Int32 × Int32) → Option ((Int32 × Int32) ⊕ (Int32)) := fun z => match z with | (b2, b5) => (if (s_t.1 0) ≤ b5 then some (.inr b2) else if inb b3 64 = true then (f_X12_has (s_t.2.2.2 20 (b3 : Int32).toNatClampNeg) b4).bind (fun x14 => (if x14 = 0 then (f_X12_has (s_t.2.2.2 20 (b3 : Int32).toNatClampNeg) b5).bind (fun x18 => (if x18 = 0 then if inb b4 64 = true then (f_X12_has (s_t.2.2.2 20 (b4 : Int32).toNatClampNeg) b5).bind (fun x25 => (if x25 = 0 then (if b1 = ((-1)) then bnd (b2 + 1 : Int32) (fun v30 => bnd (b5 + 1 : Int32) (fun v32 => some (.inl ((v30, v32))))) else if inb b5 64 = true then (f_X12_ones (((s_t.2.2.2 20 (b3 : Int32).toNatClampNeg) &&& (s_t.2.2.2 20 (b4 : Int32).toNatClampNeg)) &&& (s_t.2.2.2 20 (b5 : Int32).toNatClampNeg))).bind (fun x35 => (if x35 = b1 then bnd (b2 + 1 : Int32) (fun v43 => bnd (b5 + 1 : Int32) (fun v45 => some (.inl ((v43, v45))))) else bnd (b2 + 0 : Int32) (fun v39 => bnd (b5 + 1 : Int32) (fun v41 => some (.inl ((v39, v41))))))) else none) else bnd (b5 + 1 : Int32) (fun v47 => some (.inl ((b2, v47)))))) else none else bnd (b5 + 1 : Int32) (fun v22 => some (.inl ((b2, v22)))))) else some (.inr b2))) else none)
noncomputable def f_X12_triads_26 (s_t : OS) (b1 : Int32) (b3 : Int32) : (Int32 × Int32) → Option ((Int32 × Int32) ⊕ (Int32)) := fun z => match z with | (b2, b4) => (if (s_t.1 0) ≤ b4 then some (.inr b2) else bnd (b4 + 1 : Int32) (fun v10 => (lpv (f_X12_triads_41 s_t b1 b3 b4) ((b2, v10))).bind (fun x49 => bnd (b4 + 1 : Int32) (fun v52 => some (.inl ((x49, v52)))))))
noncomputable def f_X12_triads_13 (s_t : OS) (b1 : Int32) : (Int32 × Int32) → Option ((Int32 × Int32) ⊕ (Int32)) := fun z => match z with | (b2, b3) => (if (s_t.1 0) ≤ b3 then some (.inr b2) else bnd (b3 + 1 : Int32) (fun v7 => (lpv (f_X12_triads_26 s_t b1 b3) ((b2, v7))).bind (fun x54 => bnd (b3 + 1 : Int32) (fun v57 => some (.inl ((x54, v57)))))))
noncomputable def f_X12_triads (st : OS) (a0 : Int32) : Option (Int32 × OS) := bnd (oI st 2 0) (fun t1 => (f_X12_layNears t1).bind (fun x3 => (lpv (f_X12_triads_13 x3 a0) ((0, 0))).bind (fun x59 => some ((x59, x3)))))
set_option maxHeartbeats 4000000 in
set_option maxRecDepth 100000 in
theorem w_X12_triads_41 {p : Program} {l : Launch} {e : Env} {s : State} {m : MethodId} {args : Array Value} {below : List Frame} {meth : Method} {c : Code} {Q : State → Prop} {G : mG} {h : mM} {q : Nat → Nat} (hq : oinj LX12 q) (X : mX G p m c cX12_triads 6 s args RX12) (s_t : OS) (b1 : Int32) (b3 : Int32) (b4 : Int32) : ∀ (z : Int32 × Int32) (r : Int32), lpv (f_X12_triads_41 s_t b1 b3 b4) z = some r → ∀ (H : Heap) (locs : List Loc) (ls : Array Slot), mH G (oset LX12 G q s_t h) s.heap H locs → lv_has ls 6 [(0, .ref (q 53)), (1, .int b1), (2, .int z.1), (3, .int b3), (4, .int b4), (5, .int z.2)] → (∀ (H : Heap) (locs : List Loc) (ls : Array Slot), mH G (oset LX12 G q s_t h) s.heap H locs → lv_has ls 6 [(0, .ref (q 53)), (1, .int b1), (2, .int r), (3, .int b3), (4, .int b4)] → W p l e rm_X12_triads s m args below meth c H locs 0 0 Q (F0 m 144 ls [])) → W p l e rm_X12_triads s m args below meth c H locs 0 0 Q (F0 m 41 ls []) := by
  refine lpv_rec ?_
  intro z r x hF hx H locs ls hH hl K0
  obtain ⟨b2, b5⟩ := z
  dsimp only [f_X12_triads_41] at hF
  try dsimp only at hH hl
  refine lv_iload X.x X.b (dk DX12_triads_0 25 rfl) (lv_at hl 5 rfl) ?_
  refine lv_aload_n X.x X.b (dk DX12_triads_0 26 rfl) rfl (lv_at hl 0 rfl) ?_
  refine og_getI OX12 X hq hH 0 (by decide) rfl kF_X12_248 (dk DX12_triads_0 27 rfl) ?_
  refine lv_icmp_ge (tgt := 144) X.x X.b (dk DX12_triads_0 28 rfl) (by decide) (fun c12 => ?_) (fun c12 => ?_)
  · replace hF := if_t hF c12
    have hr9 := lp_r hF hx
    subst hr9
    exact K0 _ _ _ hH (lv_sub hl [0, 1, 2, 3, 4] rfl)
  · replace hF := if_f hF c12
    refine lv_aload_n X.x X.b (dk DX12_triads_0 29 rfl) rfl (lv_at hl 0 rfl) ?_
    refine og_getR (t := 1) OX12 X hq hH 20 (by decide) rfl kF_X12_30 (dk DX12_triads_0 30 rfl) ?_
    refine lv_iload_n X.x X.b (dk DX12_triads_0 31 rfl) rfl (lv_at hl 3 rfl) ?_
    obtain ⟨c13, hF⟩ := gd hF
    refine og_lald X hq hH 20 (by decide) rfl (inb_in c13) (dk DX12_triads_0 32 rfl) ?_
    refine lv_iload X.x X.b (dk DX12_triads_0 33 rfl) (lv_at hl 4 rfl) ?_
    obtain ⟨x14, e15, hF⟩ := bd hF
    refine mr_ci0 hH ⟨rfl, rfl⟩ (mr_runS (As := [.long (s_t.2.2.2 20 (b3 : Int32).toNatClampNeg), .int b4]) (rest := []) X hH (c_X12_has e15) kM_X12_232 kT_X12_has kN_X12 kC_X12_has hd_X12_has ⟨Nat.le_of_ble_eq_true rfl, Nat.le_of_ble_eq_true rfl⟩ rfl hl.1 (Nat.le_of_ble_eq_true rfl) (dk DX12_triads_0 34 rfl) ⟨Nat.zero_le _, Nat.zero_le _⟩) (fun r h1 H locs hp hH => ?_)
    obtain ⟨hr1, hr2⟩ := hp; rw [hr1]; rw [hr2] at hH; clear hr1 hr2
    refine lv_if_ne (tgt := 144) X.x X.b (dk DX12_triads_0 35 rfl) (by decide) (fun c17 => ?_) (fun c17 => ?_)
    · replace hF := if_f hF c17
      have hr9 := lp_r hF hx
      subst hr9
      exact K0 _ _ _ hH (lv_sub hl [0, 1, 2, 3, 4] rfl)
    · replace hF := if_t hF c17
      refine lv_aload_n X.x X.b (dk DX12_triads_0 36 rfl) rfl (lv_at hl 0 rfl) ?_
      refine og_getR (t := 1) OX12 X hq hH 20 (by decide) rfl kF_X12_30 (dk DX12_triads_0 37 rfl) ?_
      refine lv_iload_n X.x X.b (dk DX12_triads_0 38 rfl) rfl (lv_at hl 3 rfl) ?_
      refine og_lald X hq hH 20 (by decide) rfl (inb_in c13) (dk DX12_triads_0 39 rfl) ?_
      refine lv_iload X.x X.b (dk DX12_triads_0 40 rfl) (lv_at hl 5 rfl) ?_
      obtain ⟨x18, e19, hF⟩ := bd hF
      refine mr_ci0 hH ⟨rfl, rfl⟩ (mr_runS (As := [.long (s_t.2.2.2 20 (b3 : Int32).toNatClampNeg), .int b5]) (rest := []) X hH (c_X12_has e19) kM_X12_232 kT_X12_has kN_X12 kC_X12_has hd_X12_has ⟨Nat.le_of_ble_eq_true rfl, Nat.le_of_ble_eq_true rfl⟩ rfl hl.1 (Nat.le_of_ble_eq_true rfl) (dk DX12_triads_0 41 rfl) ⟨Nat.zero_le _, Nat.zero_le _⟩) (fun r h1 H locs hp hH => ?_)
      obtain ⟨hr1, hr2⟩ := hp; rw [hr1]; rw [hr2] at hH; clear hr1 hr2
      refine lv_if_ne (tgt := 138) X.x X.b (dk DX12_triads_0 42 rfl) (by decide) (fun c21 => ?_) (fun c21 => ?_)
      · replace hF := if_f hF c21
        obtain ⟨v22, e23⟩ : ∃ y : Int32, y = b5 + 1 := ⟨_, rfl⟩
        replace hF := bnd_e hF e23
        refine lv_iinc (v := v22) (lv' := [(5, .int v22), (0, .ref (q 53)), (1, .int b1), (2, .int b2), (3, .int b3), (4, .int b4)]) X.x X.b (dk DX12_triads_1 17 rfl) hl (k := 5) rfl (by rw [e23]; rfl) (by decide) rfl (fun ls hl => ?_)
        replace hl : lv_has ls 6 [(0, .ref (q 53)), (1, .int b1), (2, .int b2), (3, .int b3), (4, .int b4), (5, .int v22)] := lv_sub hl [1, 2, 3, 4, 5, 0] rfl
        refine lv_goto (tgt := 41) X.x X.b (dk DX12_triads_1 18 rfl) (by decide) ?_
        exact (lp_l hF hx) _ _ _ hH (lv_sub hl [0, 1, 2, 3, 4, 5] rfl) K0
      · replace hF := if_t hF c21
        refine lv_aload_n X.x X.b (dk DX12_triads_0 43 rfl) rfl (lv_at hl 0 rfl) ?_
        refine og_getR (t := 1) OX12 X hq hH 20 (by decide) rfl kF_X12_30 (dk DX12_triads_0 44 rfl) ?_
        refine lv_iload X.x X.b (dk DX12_triads_0 45 rfl) (lv_at hl 4 rfl) ?_
        obtain ⟨c24, hF⟩ := gd hF
        refine og_lald X hq hH 20 (by decide) rfl (inb_in c24) (dk DX12_triads_0 46 rfl) ?_
        refine lv_iload X.x X.b (dk DX12_triads_0 47 rfl) (lv_at hl 5 rfl) ?_
        obtain ⟨x25, e26, hF⟩ := bd hF
        refine mr_ci0 hH ⟨rfl, rfl⟩ (mr_runS (As := [.long (s_t.2.2.2 20 (b4 : Int32).toNatClampNeg), .int b5]) (rest := []) X hH (c_X12_has e26) kM_X12_232 kT_X12_has kN_X12 kC_X12_has hd_X12_has ⟨Nat.le_of_ble_eq_true rfl, Nat.le_of_ble_eq_true rfl⟩ rfl hl.1 (Nat.le_of_ble_eq_true rfl) (dk DX12_triads_0 48 rfl) ⟨Nat.zero_le _, Nat.zero_le _⟩) (fun r h1 H locs hp hH => ?_)
        obtain ⟨hr1, hr2⟩ := hp; rw [hr1]; rw [hr2] at hH; clear hr1 hr2
        refine lv_if_eq (tgt := 96) X.x X.b (dk DX12_triads_0 49 rfl) (by decide) (fun c28 => ?_) (fun c28 => ?_)
        · replace hF := if_t hF c28
          refine lv_iload_n X.x X.b (dk DX12_triads_0 51 rfl) rfl (lv_at hl 2 rfl) ?_
          refine lv_iload_n X.x X.b (dk DX12_triads_0 52 rfl) rfl (lv_at hl 1 rfl) ?_
          refine lv_iconst (v := (-1)) X.x X.b (dk DX12_triads_0 53 rfl) (by decide) ?_
          refine lv_icmp_eq (tgt := 131) X.x X.b (dk DX12_triads_0 54 rfl) (by decide) (fun c29 => ?_) (fun c29 => ?_)
          · replace hF := if_t hF c29
            refine lv_iconst (v := 1) X.x X.b (dk DX12_triads_1 12 rfl) (by decide) ?_
            refine lv_goto (tgt := 136) X.x X.b (dk DX12_triads_1 13 rfl) (by decide) ?_
            refine lv_iadd X.x X.b (dk DX12_triads_1 15 rfl) ?_
            refine lv_topi (fun v30 e31 => ?_)
            replace hF := bnd_e hF e31
            refine lv_istore_n (lv' := [(2, .int v30), (0, .ref (q 53)), (1, .int b1), (3, .int b3), (4, .int b4), (5, .int b5)]) X.x X.b (dk DX12_triads_1 16 rfl) rfl hl (by decide) rfl (fun ls hl => ?_)
            replace hl : lv_has ls 6 [(0, .ref (q 53)), (1, .int b1), (2, .int v30), (3, .int b3), (4, .int b4), (5, .int b5)] := lv_sub hl [1, 2, 0, 3, 4, 5] rfl
            obtain ⟨v32, e33⟩ : ∃ y : Int32, y = b5 + 1 := ⟨_, rfl⟩
            replace hF := bnd_e hF e33
            refine lv_iinc (v := v32) (lv' := [(5, .int v32), (0, .ref (q 53)), (1, .int b1), (2, .int v30), (3, .int b3), (4, .int b4)]) X.x X.b (dk DX12_triads_1 17 rfl) hl (k := 5) rfl (by rw [e33]; rfl) (by decide) rfl (fun ls hl => ?_)
            replace hl : lv_has ls 6 [(0, .ref (q 53)), (1, .int b1), (2, .int v30), (3, .int b3), (4, .int b4), (5, .int v32)] := lv_sub hl [1, 2, 3, 4, 5, 0] rfl
            refine lv_goto (tgt := 41) X.x X.b (dk DX12_triads_1 18 rfl) (by decide) ?_
            exact (lp_l hF hx) _ _ _ hH (lv_sub hl [0, 1, 2, 3, 4, 5] rfl) K0
          · replace hF := if_f hF c29
            refine lv_aload_n X.x X.b (dk DX12_triads_0 55 rfl) rfl (lv_at hl 0 rfl) ?_
            refine og_getR (t := 1) OX12 X hq hH 20 (by decide) rfl kF_X12_30 (dk DX12_triads_0 56 rfl) ?_
            refine lv_iload_n X.x X.b (dk DX12_triads_0 57 rfl) rfl (lv_at hl 3 rfl) ?_
            refine og_lald X hq hH 20 (by decide) rfl (inb_in c13) (dk DX12_triads_0 58 rfl) ?_
            refine lv_aload_n X.x X.b (dk DX12_triads_0 59 rfl) rfl (lv_at hl 0 rfl) ?_
            refine og_getR (t := 1) OX12 X hq hH 20 (by decide) rfl kF_X12_30 (dk DX12_triads_1 0 rfl) ?_
            refine lv_iload X.x X.b (dk DX12_triads_1 1 rfl) (lv_at hl 4 rfl) ?_
            refine og_lald X hq hH 20 (by decide) rfl (inb_in c24) (dk DX12_triads_1 2 rfl) ?_
            refine lv_land X.x X.b (dk DX12_triads_1 3 rfl) ?_
            refine lv_aload_n X.x X.b (dk DX12_triads_1 4 rfl) rfl (lv_at hl 0 rfl) ?_
            refine og_getR (t := 1) OX12 X hq hH 20 (by decide) rfl kF_X12_30 (dk DX12_triads_1 5 rfl) ?_
            refine lv_iload X.x X.b (dk DX12_triads_1 6 rfl) (lv_at hl 5 rfl) ?_
            obtain ⟨c34, hF⟩ := gd hF
            refine og_lald X hq hH 20 (by decide) rfl (inb_in c34) (dk DX12_triads_1 7 rfl) ?_
            refine lv_land X.x X.b (dk DX12_triads_1 8 rfl) ?_
            obtain ⟨x35, e36, hF⟩ := bd hF
            refine mr_ci0 hH ⟨rfl, rfl⟩ (mr_runS (As := [.long (((s_t.2.2.2 20 (b3 : Int32).toNatClampNeg) &&& (s_t.2.2.2 20 (b4 : Int32).toNatClampNeg)) &&& (s_t.2.2.2 20 (b5 : Int32).toNatClampNeg))]) (rest := [.int b2]) X hH (c_X12_ones e36) kM_X12_283 kT_X12_ones kN_X12 kC_X12_ones hd_X12_ones ⟨Nat.le_of_ble_eq_true rfl, Nat.le_of_ble_eq_true rfl⟩ rfl hl.1 (Nat.le_of_ble_eq_true rfl) (dk DX12_triads_1 9 rfl) ⟨Nat.zero_le _, Nat.zero_le _⟩) (fun r h1 H locs hp hH => ?_)
            obtain ⟨hr1, hr2⟩ := hp; rw [hr1]; rw [hr2] at hH; clear hr1 hr2
            refine lv_iload_n X.x X.b (dk DX12_triads_1 10 rfl) rfl (lv_at hl 1 rfl) ?_
            refine lv_icmp_ne (tgt := 135) X.x X.b (dk DX12_triads_1 11 rfl) (by decide) (fun c38 => ?_) (fun c38 => ?_)
            · replace hF := if_f hF c38
              refine lv_iconst (v := 0) X.x X.b (dk DX12_triads_1 14 rfl) (by decide) ?_
              refine lv_iadd X.x X.b (dk DX12_triads_1 15 rfl) ?_
              refine lv_topi (fun v39 e40 => ?_)
              replace hF := bnd_e hF e40
              refine lv_istore_n (lv' := [(2, .int v39), (0, .ref (q 53)), (1, .int b1), (3, .int b3), (4, .int b4), (5, .int b5)]) X.x X.b (dk DX12_triads_1 16 rfl) rfl hl (by decide) rfl (fun ls hl => ?_)
              replace hl : lv_has ls 6 [(0, .ref (q 53)), (1, .int b1), (2, .int v39), (3, .int b3), (4, .int b4), (5, .int b5)] := lv_sub hl [1, 2, 0, 3, 4, 5] rfl
              obtain ⟨v41, e42⟩ : ∃ y : Int32, y = b5 + 1 := ⟨_, rfl⟩
              replace hF := bnd_e hF e42
              refine lv_iinc (v := v41) (lv' := [(5, .int v41), (0, .ref (q 53)), (1, .int b1), (2, .int v39), (3, .int b3), (4, .int b4)]) X.x X.b (dk DX12_triads_1 17 rfl) hl (k := 5) rfl (by rw [e42]; rfl) (by decide) rfl (fun ls hl => ?_)
              replace hl : lv_has ls 6 [(0, .ref (q 53)), (1, .int b1), (2, .int v39), (3, .int b3), (4, .int b4), (5, .int v41)] := lv_sub hl [1, 2, 3, 4, 5, 0] rfl
              refine lv_goto (tgt := 41) X.x X.b (dk DX12_triads_1 18 rfl) (by decide) ?_
              exact (lp_l hF hx) _ _ _ hH (lv_sub hl [0, 1, 2, 3, 4, 5] rfl) K0
            · replace hF := if_t hF c38
              refine lv_iconst (v := 1) X.x X.b (dk DX12_triads_1 12 rfl) (by decide) ?_
              refine lv_goto (tgt := 136) X.x X.b (dk DX12_triads_1 13 rfl) (by decide) ?_
              refine lv_iadd X.x X.b (dk DX12_triads_1 15 rfl) ?_
              refine lv_topi (fun v43 e44 => ?_)
              replace hF := bnd_e hF e44
              refine lv_istore_n (lv' := [(2, .int v43), (0, .ref (q 53)), (1, .int b1), (3, .int b3), (4, .int b4), (5, .int b5)]) X.x X.b (dk DX12_triads_1 16 rfl) rfl hl (by decide) rfl (fun ls hl => ?_)
              replace hl : lv_has ls 6 [(0, .ref (q 53)), (1, .int b1), (2, .int v43), (3, .int b3), (4, .int b4), (5, .int b5)] := lv_sub hl [1, 2, 0, 3, 4, 5] rfl
              obtain ⟨v45, e46⟩ : ∃ y : Int32, y = b5 + 1 := ⟨_, rfl⟩
              replace hF := bnd_e hF e46
              refine lv_iinc (v := v45) (lv' := [(5, .int v45), (0, .ref (q 53)), (1, .int b1), (2, .int v43), (3, .int b3), (4, .int b4)]) X.x X.b (dk DX12_triads_1 17 rfl) hl (k := 5) rfl (by rw [e46]; rfl) (by decide) rfl (fun ls hl => ?_)
              replace hl : lv_has ls 6 [(0, .ref (q 53)), (1, .int b1), (2, .int v43), (3, .int b3), (4, .int b4), (5, .int v45)] := lv_sub hl [1, 2, 3, 4, 5, 0] rfl
              refine lv_goto (tgt := 41) X.x X.b (dk DX12_triads_1 18 rfl) (by decide) ?_
              exact (lp_l hF hx) _ _ _ hH (lv_sub hl [0, 1, 2, 3, 4, 5] rfl) K0
        · replace hF := if_f hF c28
          refine lv_goto (tgt := 138) X.x X.b (dk DX12_triads_0 50 rfl) (by decide) ?_
          obtain ⟨v47, e48⟩ : ∃ y : Int32, y = b5 + 1 := ⟨_, rfl⟩
          replace hF := bnd_e hF e48
          refine lv_iinc (v := v47) (lv' := [(5, .int v47), (0, .ref (q 53)), (1, .int b1), (2, .int b2), (3, .int b3), (4, .int b4)]) X.x X.b (dk DX12_triads_1 17 rfl) hl (k := 5) rfl (by rw [e48]; rfl) (by decide) rfl (fun ls hl => ?_)
          replace hl : lv_has ls 6 [(0, .ref (q 53)), (1, .int b1), (2, .int b2), (3, .int b3), (4, .int b4), (5, .int v47)] := lv_sub hl [1, 2, 3, 4, 5, 0] rfl
          refine lv_goto (tgt := 41) X.x X.b (dk DX12_triads_1 18 rfl) (by decide) ?_
          exact (lp_l hF hx) _ _ _ hH (lv_sub hl [0, 1, 2, 3, 4, 5] rfl) K0
set_option maxHeartbeats 4000000 in
set_option maxRecDepth 100000 in
theorem w_X12_triads_26 {p : Program} {l : Launch} {e : Env} {s : State} {m : MethodId} {args : Array Value} {below : List Frame} {meth : Method} {c : Code} {Q : State → Prop} {G : mG} {h : mM} {q : Nat → Nat} (hq : oinj LX12 q) (X : mX G p m c cX12_triads 6 s args RX12) (s_t : OS) (b1 : Int32) (b3 : Int32) : ∀ (z : Int32 × Int32) (r : Int32), lpv (f_X12_triads_26 s_t b1 b3) z = some r → ∀ (H : Heap) (locs : List Loc) (ls : Array Slot), mH G (oset LX12 G q s_t h) s.heap H locs → lv_has ls 6 [(0, .ref (q 53)), (1, .int b1), (2, .int z.1), (3, .int b3), (4, .int z.2)] → (∀ (H : Heap) (locs : List Loc) (ls : Array Slot), mH G (oset LX12 G q s_t h) s.heap H locs → lv_has ls 6 [(0, .ref (q 53)), (1, .int b1), (2, .int r), (3, .int b3)] → W p l e rm_X12_triads s m args below meth c H locs 0 0 Q (F0 m 150 ls [])) → W p l e rm_X12_triads s m args below meth c H locs 0 0 Q (F0 m 26 ls []) := by
  refine lpv_rec ?_
  intro z r x hF hx H locs ls hH hl K0
  obtain ⟨b2, b4⟩ := z
  dsimp only [f_X12_triads_26] at hF
  try dsimp only at hH hl
  refine lv_iload X.x X.b (dk DX12_triads_0 17 rfl) (lv_at hl 4 rfl) ?_
  refine lv_aload_n X.x X.b (dk DX12_triads_0 18 rfl) rfl (lv_at hl 0 rfl) ?_
  refine og_getI OX12 X hq hH 0 (by decide) rfl kF_X12_248 (dk DX12_triads_0 19 rfl) ?_
  refine lv_icmp_ge (tgt := 150) X.x X.b (dk DX12_triads_0 20 rfl) (by decide) (fun c9 => ?_) (fun c9 => ?_)
  · replace hF := if_t hF c9
    have hr9 := lp_r hF hx
    subst hr9
    exact K0 _ _ _ hH (lv_sub hl [0, 1, 2, 3] rfl)
  · replace hF := if_f hF c9
    refine lv_iload X.x X.b (dk DX12_triads_0 21 rfl) (lv_at hl 4 rfl) ?_
    refine lv_iconst (v := 1) X.x X.b (dk DX12_triads_0 22 rfl) (by decide) ?_
    refine lv_iadd X.x X.b (dk DX12_triads_0 23 rfl) ?_
    refine lv_topi (fun v10 e11 => ?_)
    replace hF := bnd_e hF e11
    refine lv_istore (lv' := [(5, .int v10), (0, .ref (q 53)), (1, .int b1), (2, .int b2), (3, .int b3), (4, .int b4)]) X.x X.b (dk DX12_triads_0 24 rfl) hl (by decide) rfl (fun ls hl => ?_)
    replace hl : lv_has ls 6 [(0, .ref (q 53)), (1, .int b1), (2, .int b2), (3, .int b3), (4, .int b4), (5, .int v10)] := lv_sub hl [1, 2, 3, 4, 5, 0] rfl
    obtain ⟨x49, e50, hF⟩ := bd hF
    replace hl : lv_has ls 6 [(0, .ref (q 53)), (1, .int b1), (2, .int b2), (3, .int b3), (4, .int b4), (5, .int v10)] := lv_sub hl [0, 1, 2, 3, 4, 5] rfl
    refine w_X12_triads_41 hq X s_t b1 b3 b4 _ _ e50 _ _ _ hH hl (fun H locs ls hH hl => ?_)
    obtain ⟨v52, e53⟩ : ∃ y : Int32, y = b4 + 1 := ⟨_, rfl⟩
    replace hF := bnd_e hF e53
    refine lv_iinc (v := v52) (lv' := [(4, .int v52), (0, .ref (q 53)), (1, .int b1), (2, .int x49), (3, .int b3)]) X.x X.b (dk DX12_triads_1 19 rfl) hl (k := 4) rfl (by rw [e53]; rfl) (by decide) rfl (fun ls hl => ?_)
    replace hl : lv_has ls 6 [(0, .ref (q 53)), (1, .int b1), (2, .int x49), (3, .int b3), (4, .int v52)] := lv_sub hl [1, 2, 3, 4, 0] rfl
    refine lv_goto (tgt := 26) X.x X.b (dk DX12_triads_1 20 rfl) (by decide) ?_
    exact (lp_l hF hx) _ _ _ hH (lv_sub hl [0, 1, 2, 3, 4] rfl) K0
set_option maxHeartbeats 4000000 in
set_option maxRecDepth 100000 in
theorem w_X12_triads_13 {p : Program} {l : Launch} {e : Env} {s : State} {m : MethodId} {args : Array Value} {below : List Frame} {meth : Method} {c : Code} {Q : State → Prop} {G : mG} {h : mM} {q : Nat → Nat} (hq : oinj LX12 q) (X : mX G p m c cX12_triads 6 s args RX12) (s_t : OS) (b1 : Int32) : ∀ (z : Int32 × Int32) (r : Int32), lpv (f_X12_triads_13 s_t b1) z = some r → ∀ (H : Heap) (locs : List Loc) (ls : Array Slot), mH G (oset LX12 G q s_t h) s.heap H locs → lv_has ls 6 [(0, .ref (q 53)), (1, .int b1), (2, .int z.1), (3, .int z.2)] → (∀ (H : Heap) (locs : List Loc) (ls : Array Slot), mH G (oset LX12 G q s_t h) s.heap H locs → lv_has ls 6 [(2, .int r)] → W p l e rm_X12_triads s m args below meth c H locs 0 0 Q (F0 m 156 ls [])) → W p l e rm_X12_triads s m args below meth c H locs 0 0 Q (F0 m 13 ls []) := by
  refine lpv_rec ?_
  intro z r x hF hx H locs ls hH hl K0
  obtain ⟨b2, b3⟩ := z
  dsimp only [f_X12_triads_13] at hF
  try dsimp only at hH hl
  refine lv_iload_n X.x X.b (dk DX12_triads_0 9 rfl) rfl (lv_at hl 3 rfl) ?_
  refine lv_aload_n X.x X.b (dk DX12_triads_0 10 rfl) rfl (lv_at hl 0 rfl) ?_
  refine og_getI OX12 X hq hH 0 (by decide) rfl kF_X12_248 (dk DX12_triads_0 11 rfl) ?_
  refine lv_icmp_ge (tgt := 156) X.x X.b (dk DX12_triads_0 12 rfl) (by decide) (fun c6 => ?_) (fun c6 => ?_)
  · replace hF := if_t hF c6
    have hr9 := lp_r hF hx
    subst hr9
    exact K0 _ _ _ hH (lv_sub hl [2] rfl)
  · replace hF := if_f hF c6
    refine lv_iload_n X.x X.b (dk DX12_triads_0 13 rfl) rfl (lv_at hl 3 rfl) ?_
    refine lv_iconst (v := 1) X.x X.b (dk DX12_triads_0 14 rfl) (by decide) ?_
    refine lv_iadd X.x X.b (dk DX12_triads_0 15 rfl) ?_
    refine lv_topi (fun v7 e8 => ?_)
    replace hF := bnd_e hF e8
    refine lv_istore (lv' := [(4, .int v7), (0, .ref (q 53)), (1, .int b1), (2, .int b2), (3, .int b3)]) X.x X.b (dk DX12_triads_0 16 rfl) hl (by decide) rfl (fun ls hl => ?_)
    replace hl : lv_has ls 6 [(0, .ref (q 53)), (1, .int b1), (2, .int b2), (3, .int b3), (4, .int v7)] := lv_sub hl [1, 2, 3, 4, 0] rfl
    obtain ⟨x54, e55, hF⟩ := bd hF
    replace hl : lv_has ls 6 [(0, .ref (q 53)), (1, .int b1), (2, .int b2), (3, .int b3), (4, .int v7)] := lv_sub hl [0, 1, 2, 3, 4] rfl
    refine w_X12_triads_26 hq X s_t b1 b3 _ _ e55 _ _ _ hH hl (fun H locs ls hH hl => ?_)
    obtain ⟨v57, e58⟩ : ∃ y : Int32, y = b3 + 1 := ⟨_, rfl⟩
    replace hF := bnd_e hF e58
    refine lv_iinc (v := v57) (lv' := [(3, .int v57), (0, .ref (q 53)), (1, .int b1), (2, .int x54)]) X.x X.b (dk DX12_triads_1 21 rfl) hl (k := 3) rfl (by rw [e58]; rfl) (by decide) rfl (fun ls hl => ?_)
    replace hl : lv_has ls 6 [(0, .ref (q 53)), (1, .int b1), (2, .int x54), (3, .int v57)] := lv_sub hl [1, 2, 3, 0] rfl
    refine lv_goto (tgt := 13) X.x X.b (dk DX12_triads_1 22 rfl) (by decide) ?_
    exact (lp_l hF hx) _ _ _ hH (lv_sub hl [0, 1, 2, 3] rfl) K0
set_option maxHeartbeats 4000000 in
set_option maxRecDepth 100000 in
theorem c_X12_triads {l : Launch} {G : mG} {h : mM} {q : Nat → Nat} (hq : oinj LX12 q) {st : OS} {a0 : Int32} {x : Int32 × OS} (hF : f_X12_triads st a0 = some x) : cQ l G yX12_triads cX12_triads 6 (some FieldType.int) rm_X12_triads [.ref (q 53), .int a0] (oset LX12 G q st h) (mQi G (fun r h1 => r = x.1 ∧ h1 = oset LX12 G q x.2 h)) := by
  refine mp_of (by decide +kernel) (Nat.le_of_ble_eq_true rfl) ?_
  intro p e s m below meth c X hr hlk hH hname ls hl
  dsimp only [f_X12_triads] at hF
  replace hl : lv_has ls 6 [(0, .ref (q 53)), (1, .int a0)] := hl
  refine lv_aload_n X.x X.b (dk DX12_triads_0 0 rfl) rfl (lv_at hl 0 rfl) ?_
  refine lv_iconst (v := 0) X.x X.b (dk DX12_triads_0 1 rfl) (by decide) ?_
  refine og_putI OX12 X hq hH 2 (by decide) rfl kF_X12_106 rfl rfl rfl (dk DX12_triads_0 2 rfl) (fun H locs hH => ?_)
  obtain ⟨t1, e2⟩ : ∃ y, y = oI st 2 0 := ⟨_, rfl⟩
  rw [← e2] at hH
  replace hF := bnd_e hF e2
  refine lv_aload_n X.x X.b (dk DX12_triads_0 3 rfl) rfl (lv_at hl 0 rfl) ?_
  obtain ⟨x3, e4, hF⟩ := bd hF
  refine mr_cv0 hH ⟨rfl, rfl⟩ (mr_runV (As := []) (rest := []) X hH (c_X12_layNears hq e4) ((oset_at hq (Nat.le_refl _) ohas_N).trans (congrArg some ocell_N)) OX12.1 kM_X12_272 kI_X12_layNears kS_X12_layNears kN_X12 kC_X12_layNears hd_X12_layNears ⟨Nat.le_of_ble_eq_true rfl, Nat.le_of_ble_eq_true rfl⟩ rfl hl.1 (Nat.le_of_ble_eq_true rfl) (dk DX12_triads_0 4 rfl) ⟨Nat.zero_le _, Nat.zero_le _⟩) (fun h1 H locs hp hH => ?_)
  rw [hp] at hH; clear hp
  refine lv_iconst (v := 0) X.x X.b (dk DX12_triads_0 5 rfl) (by decide) ?_
  refine lv_istore_n (lv' := [(2, .int 0), (0, .ref (q 53)), (1, .int a0)]) X.x X.b (dk DX12_triads_0 6 rfl) rfl hl (by decide) rfl (fun ls hl => ?_)
  replace hl : lv_has ls 6 [(0, .ref (q 53)), (1, .int a0), (2, .int 0)] := lv_sub hl [1, 2, 0] rfl
  refine lv_iconst (v := 0) X.x X.b (dk DX12_triads_0 7 rfl) (by decide) ?_
  refine lv_istore_n (lv' := [(3, .int 0), (0, .ref (q 53)), (1, .int a0), (2, .int 0)]) X.x X.b (dk DX12_triads_0 8 rfl) rfl hl (by decide) rfl (fun ls hl => ?_)
  replace hl : lv_has ls 6 [(0, .ref (q 53)), (1, .int a0), (2, .int 0), (3, .int 0)] := lv_sub hl [1, 2, 3, 0] rfl
  obtain ⟨x59, e60, hF⟩ := bd hF
  replace hl : lv_has ls 6 [(0, .ref (q 53)), (1, .int a0), (2, .int 0), (3, .int 0)] := lv_sub hl [0, 1, 2, 3] rfl
  refine w_X12_triads_13 hq X x3 a0 _ _ e60 _ _ _ hH hl (fun H locs ls hH hl => ?_)
  refine lv_iload_n X.x X.b (dk DX12_triads_1 23 rfl) rfl (lv_at hl 0 rfl) ?_
  cases sm hF
  exact mr_iret X hr hlk hH ⟨rfl, rfl⟩ (dk DX12_triads_1 24 rfl)
