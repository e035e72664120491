-- X8_carryOn
abbrev rm_X8_carryOn (d : Nat) : Room := { frames := 3 + d, cells := 0, slots := 0, locals := 74 + d * 24 }
theorem hd_X8_carryOn : mHd yX8_carryOn 2 := ⟨by decide +kernel, by decide +kernel, by decide +kernel⟩
theorem DX8_carryOn_0 : ∀ t ∈ ([(0, .iload_n 1, 1), (1, .aload_n 0, 1), (2, .getfield 43, 3), (5, .if_icmp .gt 9, 3), (8, .iload_n 1, 1), (9, .bipush 16, 2), (11, .if_icmp .le 5, 3), (14, .iconst 0, 1), (15, .ireturn, 1), (16, .iload_n 1, 1), (17, .bipush 16, 2), (19, .imul, 1), (20, .istore_n 2, 1), (21, .aload_n 0, 1), (22, .iload_n 2, 1), (23, .invokevirtual 92, 3), (26, .ifCond .ne 5, 3), (29, .iconst 0, 1), (30, .ireturn, 1), (31, .aload_n 0, 1), (32, .iload_n 2, 1), (33, .invokevirtual 96, 3), (36, .istore_n 3, 1), (37, .iload_n 3, 1), (38, .iconst (-1), 1), (39, .if_icmp .ne 9, 3), (42, .aload_n 0, 1), (43, .iload_n 2, 1), (44, .invokevirtual 100, 3), (47, .ireturn, 1), (48, .iconst 0, 1), (49, .istore 4, 2), (51, .iload 4, 2), (53, .aload_n 0, 1), (54, .getfield 43, 3), (57, .if_icmp .ge 57, 3), (60, .iload 4, 2), (62, .bipush 16, 2), (64, .if_icmp .ge 50, 3), (67, .aload_n 0, 1), (68, .getfield 23, 3), (71, .iload_n 2, 1), (72, .iload 4, 2), (74, .iadd, 1), (75, .laload, 1), (76, .aload_n 0, 1), (77, .getfield 20, 3), (80, .iload_n 2, 1), (81, .iload_n 3, 1), (82, .iadd, 1), (83, .laload, 1), (84, .lcmp, 1), (85, .ifCond .ne 23, 3), (88, .aload_n 0, 1), (89, .iload_n 2, 1), (90, .iload_n 3, 1), (91, .iload 4, 2), (93, .invokevirtual 103, 3), (96, .aload_n 0, 1), (97, .iload_n 1, 1)] : List (Nat × Instr × Nat)), decode cX8_carryOn t.1 = .ok (t.2.1, t.2.2) := by decide +kernel
theorem DX8_carryOn_1 : ∀ t ∈ ([(98, .iconst 1, 1), (99, .iadd, 1), (100, .invokestatic 65, 3), (103, .ifCond .eq 5, 3), (106, .iconst 1, 1), (107, .ireturn, 1), (108, .iinc 4 1, 3), (111, .goto (-60), 3), (114, .iconst 0, 1), (115, .ireturn, 1)] : List (Nat × Instr × Nat)), decode cX8_carryOn t.1 = .ok (t.2.1, t.2.2) := by decide +kernel
noncomputable def f_X8_carryOn_51 (rec : OS → Int32 → Option (Int32 × OS)) (b1 : Int32) (b2 : Int32) (b3 : Int32) : (OS × Int32) → Option ((OS × Int32) ⊕ (Nat × OS)) := fun z => match z with | (s_o1, b4) => (if (s_o1.1 0) ≤ b4 then some (.inr ((1, s_o1))) else (if 16 ≤ b4 then some (.inr ((1, s_o1))) else if inb (b2 + b4) 288 = true then if inb (b2 + b3) 288 = true then (if (lg_cmp (s_o1.2.2.2 5 (b2 + b4 : Int32).toNatClampNeg) (s_o1.2.2.2 4 (b2 + b3 : Int32).toNatClampNeg)) = 0 then (f_X8_tellApart s_o1 b2 b3 b4).bind (fun x21 => (rec x21 (b1 + 1)).bind (fun x24 => match x24 with | (v26, t27) => (if v26 = 0 then bnd (b4 + 1 : Int32) (fun v29 => some (.inl ((t27, v29)))) else some (.inr ((0, t27)))))) else bnd (b4 + 1 : Int32) (fun v19 => some (.inl ((s_o1, v19))))) else none else none))
noncomputable def f_X8_carryOn_T (rec : OS → Int32 → Option (Int32 × OS)) (st1 : OS) (a1 : Int32) : Option (Int32 × OS) := (if (st1.1 0) < a1 then some ((0, st1)) else (if a1 ≤ 16 then bnd (a1 * 16 : Int32) (fun v3 => (f_X8_settleHues st1 v3).bind (fun x5 => match x5 with | (v7, t8) => (if v7 = 0 then some ((0, t8)) else (f_X8_undecided t8 v3).bind (fun x10 => (if x10 = ((-1)) then (f_X8_carries t8 v3).bind (fun x35 => match x35 with | (v37, t38) => if isb v37 = true then some ((v37, t38)) else none) else (lpv (f_X8_carryOn_51 rec a1 v3 x10) ((t8, 0))).bind (fun x31 => match x31 with | (k34, t33) => (if k34 = 0 then some ((1, t33)) else some ((0, t33))))))))) else some ((0, st1))))
noncomputable def f_X8_carryOn : Nat → OS → Int32 → Option (Int32 × OS)
  | 0 => fun _ _ => none
  | d + 1 => f_X8_carryOn_T (f_X8_carryOn d)
set_option maxHeartbeats 4000000 in
set_option maxRecDepth 100000 in
theorem w_X8_carryOn_51 {p : Program} {l : Launch} {e : Env} {s : State} {m : MethodId} {args : Array Value} {below : List Frame} {meth : Method} {c : Code} {Q : State → Prop} {G : mG} {h : mM} {q1 : Nat → Nat} (hq1 : oinj LX8 q1) {d : Nat} {rec : OS → Int32 → Option (Int32 × OS)} (ih : ∀ (st1 : OS) (a1 : Int32) (x : Int32 × OS), rec st1 a1 = some x → cQ l G yX8_carryOn cX8_carryOn 5 (some FieldType.boolean) (rm_X8_carryOn d) [.ref (q1 10), .int a1] (oset LX8 G q1 st1 h) (mQi G (fun r h1 => r = x.1 ∧ h1 = oset LX8 G q1 x.2 h))) (X : mX G p m c cX8_carryOn 5 s args RX8) (b1 : Int32) (b2 : Int32) (b3 : Int32) : ∀ (z : OS × Int32) (r : Nat × OS), lpv (f_X8_carryOn_51 rec b1 b2 b3) z = some r → ∀ (H : Heap) (locs : List Loc) (ls : Array Slot), mH G (oset LX8 G q1 z.1 h) s.heap H locs → lv_has ls 5 [(0, .ref (q1 10)), (1, .int b1), (2, .int b2), (3, .int b3), (4, .int z.2)] → (r.1 = 0 → ∀ (H : Heap) (locs : List Loc) (ls : Array Slot), mH G (oset LX8 G q1 r.2 h) s.heap H locs → lv_has ls 5 [] → W p l e (rm_X8_carryOn (d + 1)) s m args below meth c H locs 0 0 Q (F0 m 106 ls [])) → (r.1 = 1 → ∀ (H : Heap) (locs : List Loc) (ls : Array Slot), mH G (oset LX8 G q1 r.2 h) s.heap H locs → lv_has ls 5 [] → W p l e (rm_X8_carryOn (d + 1)) s m args below meth c H locs 0 0 Q (F0 m 114 ls [])) → W p l e (rm_X8_carryOn (d + 1)) s m args below meth c H locs 0 0 Q (F0 m 51 ls []) := by
  refine lpv_rec ?_
  intro z r x hF hx H locs ls hH hl K0 K1
  obtain ⟨s_o1, b4⟩ := z
  dsimp only [f_X8_carryOn_51] at hF
  try dsimp only at hH hl
  refine lv_iload X.x X.b (dk DX8_carryOn_0 32 rfl) (lv_at hl 4 rfl) ?_
  refine lv_aload_n X.x X.b (dk DX8_carryOn_0 33 rfl) rfl (lv_at hl 0 rfl) ?_
  refine og_getI OX8 X hq1 hH 0 (by decide) rfl kF_X8_43 (dk DX8_carryOn_0 34 rfl) ?_
  refine lv_icmp_ge (tgt := 114) X.x X.b (dk DX8_carryOn_0 35 rfl) (by decide) (fun c14 => ?_) (fun c14 => ?_)
  · replace hF := if_t hF c14
    have hr9 := lp_r hF hx
    subst hr9
    exact K1 rfl _ _ _ hH (lv_sub hl [] rfl)
  · replace hF := if_f hF c14
    refine lv_iload X.x X.b (dk DX8_carryOn_0 36 rfl) (lv_at hl 4 rfl) ?_
    refine lv_bipush (v := 16) X.x X.b (dk DX8_carryOn_0 37 rfl) (by decide) ?_
    refine lv_icmp_ge (tgt := 114) X.x X.b (dk DX8_carryOn_0 38 rfl) (by decide) (fun c15 => ?_) (fun c15 => ?_)
    · replace hF := if_t hF c15
      have hr9 := lp_r hF hx
      subst hr9
      exact K1 rfl _ _ _ hH (lv_sub hl [] rfl)
    · replace hF := if_f hF c15
      refine lv_aload_n X.x X.b (dk DX8_carryOn_0 39 rfl) rfl (lv_at hl 0 rfl) ?_
      refine og_getR (t := 1) OX8 X hq1 hH 5 (by decide) rfl kF_X8_23 (dk DX8_carryOn_0 40 rfl) ?_
      refine lv_iload_n X.x X.b (dk DX8_carryOn_0 41 rfl) rfl (lv_at hl 2 rfl) ?_
      refine lv_iload X.x X.b (dk DX8_carryOn_0 42 rfl) (lv_at hl 4 rfl) ?_
      refine lv_iadd X.x X.b (dk DX8_carryOn_0 43 rfl) ?_
      obtain ⟨c16, hF⟩ := gd hF
      refine og_lald X hq1 hH 5 (by decide) rfl (inb_in c16) (dk DX8_carryOn_0 44 rfl) ?_
      refine lv_aload_n X.x X.b (dk DX8_carryOn_0 45 rfl) rfl (lv_at hl 0 rfl) ?_
      refine og_getR (t := 1) OX8 X hq1 hH 4 (by decide) rfl kF_X8_20 (dk DX8_carryOn_0 46 rfl) ?_
      refine lv_iload_n X.x X.b (dk DX8_carryOn_0 47 rfl) rfl (lv_at hl 2 rfl) ?_
      refine lv_iload_n X.x X.b (dk DX8_carryOn_0 48 rfl) rfl (lv_at hl 3 rfl) ?_
      refine lv_iadd X.x X.b (dk DX8_carryOn_0 49 rfl) ?_
      obtain ⟨c17, hF⟩ := gd hF
      refine og_lald X hq1 hH 4 (by decide) rfl (inb_in c17) (dk DX8_carryOn_0 50 rfl) ?_
      refine W.lcmp X.x X.b (dk DX8_carryOn_0 51 rfl) ?_
      refine lv_if_ne (tgt := 108) X.x X.b (dk DX8_carryOn_0 52 rfl) (by decide) (fun c18 => ?_) (fun c18 => ?_)
      · replace hF := if_f hF c18
        obtain ⟨v19, e20⟩ : ∃ y : Int32, y = b4 + 1 := ⟨_, rfl⟩
        replace hF := bnd_e hF e20
        refine lv_iinc (v := v19) (lv' := [(4, .int v19), (0, .ref (q1 10)), (1, .int b1), (2, .int b2), (3, .int b3)]) X.x X.b (dk DX8_carryOn_1 6 rfl) hl (k := 4) rfl (by rw [e20]; rfl) (by decide) rfl (fun ls hl => ?_)
        replace hl : lv_has ls 5 [(0, .ref (q1 10)), (1, .int b1), (2, .int b2), (3, .int b3), (4, .int v19)] := lv_sub hl [1, 2, 3, 4, 0] rfl
        refine lv_goto (tgt := 51) X.x X.b (dk DX8_carryOn_1 7 rfl) (by decide) ?_
        exact (lp_l hF hx) _ _ _ hH (lv_sub hl [0, 1, 2, 3, 4] rfl) K0 K1
      · replace hF := if_t hF c18
        refine lv_aload_n X.x X.b (dk DX8_carryOn_0 53 rfl) rfl (lv_at hl 0 rfl) ?_
        refine lv_iload_n X.x X.b (dk DX8_carryOn_0 54 rfl) rfl (lv_at hl 2 rfl) ?_
        refine lv_iload_n X.x X.b (dk DX8_carryOn_0 55 rfl) rfl (lv_at hl 3 rfl) ?_
        refine lv_iload X.x X.b (dk DX8_carryOn_0 56 rfl) (lv_at hl 4 rfl) ?_
        obtain ⟨x21, e22, hF⟩ := bd hF
        refine mr_cv0 hH ⟨rfl, rfl⟩ (mr_runV (As := [.int b2, .int b3, .int b4]) (rest := []) X hH (c_X8_tellApart hq1 e22) ((oset_at hq1 (Nat.le_refl _) ohas_N).trans (congrArg some ocell_N)) OX8.1 kM_X8_103 kI_X8_tellApart kS_X8_tellApart kN_X8 kC_X8_tellApart hd_X8_tellApart ⟨by dsimp only [rm_X8_carryOn, rm_X8_tellApart]; omega, by dsimp only [rm_X8_carryOn, rm_X8_tellApart]; omega⟩ rfl hl.1 (Nat.le_of_ble_eq_true rfl) (dk DX8_carryOn_0 57 rfl) ⟨Nat.zero_le _, Nat.zero_le _⟩) (fun h1 H locs hp hH => ?_)
        rw [hp] at hH; clear hp
        refine lv_aload_n X.x X.b (dk DX8_carryOn_0 58 rfl) rfl (lv_at hl 0 rfl) ?_
        refine lv_iload_n X.x X.b (dk DX8_carryOn_0 59 rfl) rfl (lv_at hl 1 rfl) ?_
        refine lv_iconst (v := 1) X.x X.b (dk DX8_carryOn_1 0 rfl) (by decide) ?_
        refine lv_iadd X.x X.b (dk DX8_carryOn_1 1 rfl) ?_
        obtain ⟨x24, e25, hF⟩ := bd hF
        refine mr_ci0 hH ⟨rfl, rfl⟩ (mr_runS (As := [.ref (q1 10), .int (b1 + 1)]) (rest := []) X hH (ih x21 (b1 + 1) _ e25) kM_X8_65 kT_X8_carryOn kN_X8 kC_X8_carryOn hd_X8_carryOn ⟨by dsimp only [rm_X8_carryOn, rm_X8_carryOn]; omega, by dsimp only [rm_X8_carryOn, rm_X8_carryOn]; omega⟩ rfl hl.1 (Nat.le_of_ble_eq_true rfl) (dk DX8_carryOn_1 2 rfl) ⟨Nat.zero_le _, Nat.zero_le _⟩) (fun r h1 H locs hp hH => ?_)
        obtain ⟨hr1, hr2⟩ := hp; rw [hr1]; rw [hr2] at hH; clear hr1 hr2
        obtain ⟨v26, t27⟩ := x24
        try dsimp only at hF hH ⊢
        refine lv_if_eq (tgt := 108) X.x X.b (dk DX8_carryOn_1 3 rfl) (by decide) (fun c28 => ?_) (fun c28 => ?_)
        · replace hF := if_t hF c28
          obtain ⟨v29, e30⟩ : ∃ y : Int32, y = b4 + 1 := ⟨_, rfl⟩
          replace hF := bnd_e hF e30
          refine lv_iinc (v := v29) (lv' := [(4, .int v29), (0, .ref (q1 10)), (1, .int b1), (2, .int b2), (3, .int b3)]) X.x X.b (dk DX8_carryOn_1 6 rfl) hl (k := 4) rfl (by rw [e30]; rfl) (by decide) rfl (fun ls hl => ?_)
          replace hl : lv_has ls 5 [(0, .ref (q1 10)), (1, .int b1), (2, .int b2), (3, .int b3), (4, .int v29)] := lv_sub hl [1, 2, 3, 4, 0] rfl
          refine lv_goto (tgt := 51) X.x X.b (dk DX8_carryOn_1 7 rfl) (by decide) ?_
          exact (lp_l hF hx) _ _ _ hH (lv_sub hl [0, 1, 2, 3, 4] rfl) K0 K1
        · replace hF := if_f hF c28
          have hr9 := lp_r hF hx
          subst hr9
          exact K0 rfl _ _ _ hH (lv_sub hl [] rfl)
set_option maxHeartbeats 4000000 in
set_option maxRecDepth 100000 in
theorem c_X8_carryOn {l : Launch} {G : mG} {h : mM} {q1 : Nat → Nat} (hq1 : oinj LX8 q1) (d : Nat) : ∀ (st1 : OS) (a1 : Int32) (x : Int32 × OS), f_X8_carryOn d st1 a1 = some x → cQ l G yX8_carryOn cX8_carryOn 5 (some FieldType.boolean) (rm_X8_carryOn d) [.ref (q1 10), .int a1] (oset LX8 G q1 st1 h) (mQi G (fun r h1 => r = x.1 ∧ h1 = oset LX8 G q1 x.2 h)) := by
  induction d with
  | zero => intro st1 a1 x hF; cases hF
  | succ d ih =>
    intro st1 a1 x hF
    have hF : f_X8_carryOn_T (f_X8_carryOn d) st1 a1 = some x := hF
    generalize f_X8_carryOn d = rec at hF ih
    refine mp_of (by decide +kernel) (Nat.le_of_ble_eq_true rfl) ?_
    intro p e s m below meth c X hr hlk hH hname ls hl
    dsimp only [f_X8_carryOn_T] at hF
    replace hl : lv_has ls 5 [(0, .ref (q1 10)), (1, .int a1)] := hl
    refine lv_iload_n X.x X.b (dk DX8_carryOn_0 0 rfl) rfl (lv_at hl 1 rfl) ?_
    refine lv_aload_n X.x X.b (dk DX8_carryOn_0 1 rfl) rfl (lv_at hl 0 rfl) ?_
    refine og_getI OX8 X hq1 hH 0 (by decide) rfl kF_X8_43 (dk DX8_carryOn_0 2 rfl) ?_
    refine lv_icmp_gt (tgt := 14) X.x X.b (dk DX8_carryOn_0 3 rfl) (by decide) (fun c1 => ?_) (fun c1 => ?_)
    · replace hF := if_t hF c1
      refine lv_iconst (v := 0) X.x X.b (dk DX8_carryOn_0 7 rfl) (by decide) ?_
      cases sm hF
      exact mr_zret X hr hlk hH rfl ⟨rfl, rfl⟩ (dk DX8_carryOn_0 8 rfl)
    · replace hF := if_f hF c1
      refine lv_iload_n X.x X.b (dk DX8_carryOn_0 4 rfl) rfl (lv_at hl 1 rfl) ?_
      refine lv_bipush (v := 16) X.x X.b (dk DX8_carryOn_0 5 rfl) (by decide) ?_
      refine lv_icmp_le (tgt := 16) X.x X.b (dk DX8_carryOn_0 6 rfl) (by decide) (fun c2 => ?_) (fun c2 => ?_)
      · replace hF := if_t hF c2
        refine lv_iload_n X.x X.b (dk DX8_carryOn_0 9 rfl) rfl (lv_at hl 1 rfl) ?_
        refine lv_bipush (v := 16) X.x X.b (dk DX8_carryOn_0 10 rfl) (by decide) ?_
        refine lv_imul X.x X.b (dk DX8_carryOn_0 11 rfl) ?_
        refine lv_topi (fun v3 e4 => ?_)
        replace hF := bnd_e hF e4
        refine lv_istore_n (lv' := [(2, .int v3), (0, .ref (q1 10)), (1, .int a1)]) X.x X.b (dk DX8_carryOn_0 12 rfl) rfl hl (by decide) rfl (fun ls hl => ?_)
        replace hl : lv_has ls 5 [(0, .ref (q1 10)), (1, .int a1), (2, .int v3)] := lv_sub hl [1, 2, 0] rfl
        refine lv_aload_n X.x X.b (dk DX8_carryOn_0 13 rfl) rfl (lv_at hl 0 rfl) ?_
        refine lv_iload_n X.x X.b (dk DX8_carryOn_0 14 rfl) rfl (lv_at hl 2 rfl) ?_
        obtain ⟨x5, e6, hF⟩ := bd hF
        refine mr_ci0 hH ⟨rfl, rfl⟩ (mr_runV (As := [.int v3]) (rest := []) X hH (c_X8_settleHues hq1 e6) ((oset_at hq1 (Nat.le_refl _) ohas_N).trans (congrArg some ocell_N)) OX8.1 kM_X8_92 kI_X8_settleHues kS_X8_settleHues kN_X8 kC_X8_settleHues hd_X8_settleHues ⟨by dsimp only [rm_X8_carryOn, rm_X8_settleHues]; omega, by dsimp only [rm_X8_carryOn, rm_X8_settleHues]; omega⟩ rfl hl.1 (Nat.le_of_ble_eq_true rfl) (dk DX8_carryOn_0 15 rfl) ⟨Nat.zero_le _, Nat.zero_le _⟩) (fun r h1 H locs hp hH => ?_)
        obtain ⟨hr1, hr2⟩ := hp; rw [hr1]; rw [hr2] at hH; clear hr1 hr2
        obtain ⟨v7, t8⟩ := x5
        try dsimp only at hF hH ⊢
        refine lv_if_ne (tgt := 31) X.x X.b (dk DX8_carryOn_0 16 rfl) (by decide) (fun c9 => ?_) (fun c9 => ?_)
        · replace hF := if_f hF c9
          refine lv_aload_n X.x X.b (dk DX8_carryOn_0 19 rfl) rfl (lv_at hl 0 rfl) ?_
          refine lv_iload_n X.x X.b (dk DX8_carryOn_0 20 rfl) rfl (lv_at hl 2 rfl) ?_
          obtain ⟨x10, e11, hF⟩ := bd hF
          refine mr_ci0 hH ⟨rfl, rfl⟩ (mr_runV (As := [.int v3]) (rest := []) X hH (c_X8_undecided hq1 e11) ((oset_at hq1 (Nat.le_refl _) ohas_N).trans (congrArg some ocell_N)) OX8.1 kM_X8_96 kI_X8_undecided kS_X8_undecided kN_X8 kC_X8_undecided hd_X8_undecided ⟨by dsimp only [rm_X8_carryOn, rm_X8_undecided]; omega, by dsimp only [rm_X8_carryOn, rm_X8_undecided]; omega⟩ rfl hl.1 (Nat.le_of_ble_eq_true rfl) (dk DX8_carryOn_0 21 rfl) ⟨Nat.zero_le _, Nat.zero_le _⟩) (fun r h1 H locs hp hH => ?_)
          obtain ⟨hr1, hr2⟩ := hp; rw [hr1]; rw [hr2] at hH; clear hr1 hr2
          refine lv_istore_n (lv' := [(3, .int x10), (0, .ref (q1 10)), (1, .int a1), (2, .int v3)]) X.x X.b (dk DX8_carryOn_0 22 rfl) rfl hl (by decide) rfl (fun ls hl => ?_)
          replace hl : lv_has ls 5 [(0, .ref (q1 10)), (1, .int a1), (2, .int v3), (3, .int x10)] := lv_sub hl [1, 2, 3, 0] rfl
          refine lv_iload_n X.x X.b (dk DX8_carryOn_0 23 rfl) rfl (lv_at hl 3 rfl) ?_
          refine lv_iconst (v := (-1)) X.x X.b (dk DX8_carryOn_0 24 rfl) (by decide) ?_
          refine lv_icmp_ne (tgt := 48) X.x X.b (dk DX8_carryOn_0 25 rfl) (by decide) (fun c13 => ?_) (fun c13 => ?_)
          · replace hF := if_f hF c13
            refine lv_iconst (v := 0) X.x X.b (dk DX8_carryOn_0 30 rfl) (by decide) ?_
            refine lv_istore (lv' := [(4, .int 0), (0, .ref (q1 10)), (1, .int a1), (2, .int v3), (3, .int x10)]) X.x X.b (dk DX8_carryOn_0 31 rfl) hl (by decide) rfl (fun ls hl => ?_)
            replace hl : lv_has ls 5 [(0, .ref (q1 10)), (1, .int a1), (2, .int v3), (3, .int x10), (4, .int 0)] := lv_sub hl [1, 2, 3, 4, 0] rfl
            obtain ⟨x31, e32, hF⟩ := bd hF
            replace hl : lv_has ls 5 [(0, .ref (q1 10)), (1, .int a1), (2, .int v3), (3, .int x10), (4, .int 0)] := lv_sub hl [0, 1, 2, 3, 4] rfl
            obtain ⟨k34, t33⟩ := x31
            try dsimp only at hF
            refine w_X8_carryOn_51 hq1 ih X a1 v3 x10 _ _ e32 _ _ _ hH hl (fun hk H locs ls hH hl => ?_) (fun hk H locs ls hH hl => ?_)
            · try dsimp only at hH hl
              try dsimp only at hk
              subst hk
              replace hF := if_t hF rfl
              refine lv_iconst (v := 1) X.x X.b (dk DX8_carryOn_1 4 rfl) (by decide) ?_
              cases sm hF
              exact mr_zret X hr hlk hH rfl ⟨rfl, rfl⟩ (dk DX8_carryOn_1 5 rfl)
            · try dsimp only at hH hl
              try dsimp only at hk
              subst hk
              replace hF := if_f hF (by decide)
              refine lv_iconst (v := 0) X.x X.b (dk DX8_carryOn_1 8 rfl) (by decide) ?_
              cases sm hF
              exact mr_zret X hr hlk hH rfl ⟨rfl, rfl⟩ (dk DX8_carryOn_1 9 rfl)
          · replace hF := if_t hF c13
            refine lv_aload_n X.x X.b (dk DX8_carryOn_0 26 rfl) rfl (lv_at hl 0 rfl) ?_
            refine lv_iload_n X.x X.b (dk DX8_carryOn_0 27 rfl) rfl (lv_at hl 2 rfl) ?_
            obtain ⟨x35, e36, hF⟩ := bd hF
            refine mr_ci0 hH ⟨rfl, rfl⟩ (mr_runV (As := [.int v3]) (rest := []) X hH (c_X8_carries hq1 e36) ((oset_at hq1 (Nat.le_refl _) ohas_N).trans (congrArg some ocell_N)) OX8.1 kM_X8_100 kI_X8_carries kS_X8_carries kN_X8 kC_X8_carries hd_X8_carries ⟨by dsimp only [rm_X8_carryOn, rm_X8_carries]; omega, by dsimp only [rm_X8_carryOn, rm_X8_carries]; omega⟩ rfl hl.1 (Nat.le_of_ble_eq_true rfl) (dk DX8_carryOn_0 28 rfl) ⟨Nat.zero_le _, Nat.zero_le _⟩) (fun r h1 H locs hp hH => ?_)
            obtain ⟨hr1, hr2⟩ := hp; rw [hr1]; rw [hr2] at hH; clear hr1 hr2
            obtain ⟨v37, t38⟩ := x35
            try dsimp only at hF hH ⊢
            obtain ⟨c39, hF⟩ := gd hF
            cases sm hF
            exact mr_zret X hr hlk hH (isb_nar c39) ⟨rfl, rfl⟩ (dk DX8_carryOn_0 29 rfl)
        · replace hF := if_t hF c9
          refine lv_iconst (v := 0) X.x X.b (dk DX8_carryOn_0 17 rfl) (by decide) ?_
          cases sm hF
          exact mr_zret X hr hlk hH rfl ⟨rfl, rfl⟩ (dk DX8_carryOn_0 18 rfl)
      · replace hF := if_f hF c2
        refine lv_iconst (v := 0) X.x X.b (dk DX8_carryOn_0 7 rfl) (by decide) ?_
        cases sm hF
        exact mr_zret X hr hlk hH rfl ⟨rfl, rfl⟩ (dk DX8_carryOn_0 8 rfl)
-- X8_mergeClasses
abbrev rm_X8_mergeClasses : Room := { frames := 0, cells := 0, slots := 0, locals := 0 }
theorem hd_X8_mergeClasses : mHd yX8_mergeClasses 0 := ⟨by decide +kernel, by decide +kernel, by decide +kernel⟩
theorem DX8_mergeClasses_0 : ∀ t ∈ ([(0, .iconst 0, 1), (1, .istore_n 1, 1), (2, .iload_n 1, 1), (3, .aload_n 0, 1), (4, .getfield 43, 3), (7, .if_icmp .ge 104, 3), (10, .iload_n 1, 1), (11, .bipush 16, 2), (13, .if_icmp .ge 98, 3), (16, .aload_n 0, 1), (17, .getfield 32, 3), (20, .iload_n 1, 1), (21, .iaload, 1), (22, .istore_n 2, 1), (23, .iload_n 2, 1), (24, .ifCond .lt 81, 3), (27, .iload_n 2, 1), (28, .bipush 16, 2), (30, .if_icmp .ge 75, 3), (33, .aload_n 0, 1), (34, .getfield 36, 3), (37, .iload_n 2, 1), (38, .iaload, 1), (39, .aload_n 0, 1), (40, .getfield 36, 3), (43, .iload_n 1, 1), (44, .iaload, 1), (45, .if_icmp .eq 60, 3), (48, .aload_n 0, 1), (49, .getfield 36, 3), (52, .iload_n 2, 1), (53, .iaload, 1), (54, .istore_n 3, 1), (55, .iconst 0, 1), (56, .istore 4, 2), (58, .iload 4, 2), (60, .bipush 16, 2), (62, .if_icmp .ge 43, 3), (65, .aload_n 0, 1), (66, .getfield 36, 3), (69, .iload 4, 2), (71, .aload_n 0, 1), (72, .getfield 36, 3), (75, .iload 4, 2), (77, .iaload, 1), (78, .iload_n 3, 1), (79, .if_icmp .ne 12, 3), (82, .aload_n 0, 1), (83, .getfield 36, 3), (86, .iload_n 1, 1), (87, .iaload, 1), (88, .goto 10, 3), (91, .aload_n 0, 1), (92, .getfield 36, 3), (95, .iload 4, 2), (97, .iaload, 1), (98, .iastore, 1), (99, .iinc 4 1, 3), (102, .goto (-44), 3), (105, .iinc 1 1, 3)] : List (Nat × Instr × Nat)), decode cX8_mergeClasses t.1 = .ok (t.2.1, t.2.2) := by decide +kernel
theorem DX8_mergeClasses_1 : ∀ t ∈ ([(108, .goto (-106), 3), (111, .return_, 1)] : List (Nat × Instr × Nat)), decode cX8_mergeClasses t.1 = .ok (t.2.1, t.2.2) := by decide +kernel
noncomputable def f_X8_mergeClasses_58 (b1 : Int32) (b3 : Int32) : (OS × Int32) → Option ((OS × Int32) ⊕ (OS)) := fun z => match z with | (s_t, b4) => (if 16 ≤ b4 then some (.inr s_t) else if inb b4 16 = true then (if (s_t.2.2.1 9 (b4 : Int32).toNatClampNeg) = b3 then if inb b1 16 = true then bnd (oA s_t 9 (upd (s_t.2.2.1 9) (b4 : Int32).toNatClampNeg (s_t.2.2.1 9 (b1 : Int32).toNatClampNeg))) (fun t26 => bnd (b4 + 1 : Int32) (fun v28 => some (.inl ((t26, v28))))) else none else bnd (oA s_t 9 (upd (s_t.2.2.1 9) (b4 : Int32).toNatClampNeg (s_t.2.2.1 9 (b4 : Int32).toNatClampNeg))) (fun t21 => bnd (b4 + 1 : Int32) (fun v23 => some (.inl ((t21, v23)))))) else none)
noncomputable def f_X8_mergeClasses_2 : (OS × Int32) → Option ((OS × Int32) ⊕ (OS)) := fun z => match z with | (s_t, b1) => (if (s_t.1 0) ≤ b1 then some (.inr s_t) else (if 16 ≤ b1 then some (.inr s_t) else if inb b1 16 = true then bnd (s_t.2.2.1 8 (b1 : Int32).toNatClampNeg : Int32) (fun v4 => (if v4 < 0 then bnd (b1 + 1 : Int32) (fun v7 => some (.inl ((s_t, v7)))) else (if 16 ≤ v4 then bnd (b1 + 1 : Int32) (fun v10 => some (.inl ((s_t, v10)))) else if inb v4 16 = true then (if (s_t.2.2.1 9 (v4 : Int32).toNatClampNeg) = (s_t.2.2.1 9 (b1 : Int32).toNatClampNeg) then bnd (b1 + 1 : Int32) (fun v14 => some (.inl ((s_t, v14)))) else bnd (s_t.2.2.1 9 (v4 : Int32).toNatClampNeg : Int32) (fun v16 => (lpv (f_X8_mergeClasses_58 b1 v16) ((s_t, 0))).bind (fun x30 => bnd (b1 + 1 : Int32) (fun v33 => some (.inl ((x30, v33))))))) else none))) else none))
noncomputable def f_X8_mergeClasses (st : OS) : Option (OS) := (lpv (f_X8_mergeClasses_2) ((st, 0))).bind (fun x35 => some x35)
set_option maxHeartbeats 4000000 in
set_option maxRecDepth 100000 in
theorem w_X8_mergeClasses_58 {p : Program} {l : Launch} {e : Env} {s : State} {m : MethodId} {args : Array Value} {below : List Frame} {meth : Method} {c : Code} {Q : State → Prop} {G : mG} {h : mM} {q : Nat → Nat} (hq : oinj LX8 q) (X : mX G p m c cX8_mergeClasses 5 s args RX8) (b1 : Int32) (b3 : Int32) : ∀ (z : OS × Int32) (r : OS), lpv (f_X8_mergeClasses_58 b1 b3) z = some r → ∀ (H : Heap) (locs : List Loc) (ls : Array Slot), mH G (oset LX8 G q z.1 h) s.heap H locs → lv_has ls 5 [(0, .ref (q 10)), (1, .int b1), (3, .int b3), (4, .int z.2)] → (∀ (H : Heap) (locs : List Loc) (ls : Array Slot), mH G (oset LX8 G q r h) s.heap H locs → lv_has ls 5 [(0, .ref (q 10)), (1, .int b1)] → W p l e rm_X8_mergeClasses s m args below meth c H locs 0 0 Q (F0 m 105 ls [])) → W p l e rm_X8_mergeClasses s m args below meth c H locs 0 0 Q (F0 m 58 ls []) := by
  refine lpv_rec ?_
  intro z r x hF hx H locs ls hH hl K0
  obtain ⟨s_t, b4⟩ := z
  dsimp only [f_X8_mergeClasses_58] at hF
  try dsimp only at hH hl
  refine lv_iload X.x X.b (dk DX8_mergeClasses_0 35 rfl) (lv_at hl 3 rfl) ?_
  refine lv_bipush (v := 16) X.x X.b (dk DX8_mergeClasses_0 36 rfl) (by decide) ?_
  refine lv_icmp_ge (tgt := 105) X.x X.b (dk DX8_mergeClasses_0 37 rfl) (by decide) (fun c18 => ?_) (fun c18 => ?_)
  · replace hF := if_t hF c18
    have hr9 := lp_r hF hx
    subst hr9
    exact K0 _ _ _ hH (lv_sub hl [0, 1] rfl)
  · replace hF := if_f hF c18
    refine lv_aload_n X.x X.b (dk DX8_mergeClasses_0 38 rfl) rfl (lv_at hl 0 rfl) ?_
    refine og_getR (t := 0) OX8 X hq hH 9 (by decide) rfl kF_X8_36 (dk DX8_mergeClasses_0 39 rfl) ?_
    refine lv_iload X.x X.b (dk DX8_mergeClasses_0 40 rfl) (lv_at hl 3 rfl) ?_
    refine lv_aload_n X.x X.b (dk DX8_mergeClasses_0 41 rfl) rfl (lv_at hl 0 rfl) ?_
    refine og_getR (t := 0) OX8 X hq hH 9 (by decide) rfl kF_X8_36 (dk DX8_mergeClasses_0 42 rfl) ?_
    refine lv_iload X.x X.b (dk DX8_mergeClasses_0 43 rfl) (lv_at hl 3 rfl) ?_
    obtain ⟨c19, hF⟩ := gd hF
    refine og_iald X hq hH 9 (by decide) rfl (inb_in c19) (dk DX8_mergeClasses_0 44 rfl) ?_
    refine lv_iload_n X.x X.b (dk DX8_mergeClasses_0 45 rfl) rfl (lv_at hl 2 rfl) ?_
    refine lv_icmp_ne (tgt := 91) X.x X.b (dk DX8_mergeClasses_0 46 rfl) (by decide) (fun c20 => ?_) (fun c20 => ?_)
    · replace hF := if_f hF c20
      refine lv_aload_n X.x X.b (dk DX8_mergeClasses_0 52 rfl) rfl (lv_at hl 0 rfl) ?_
      refine og_getR (t := 0) OX8 X hq hH 9 (by decide) rfl kF_X8_36 (dk DX8_mergeClasses_0 53 rfl) ?_
      refine lv_iload X.x X.b (dk DX8_mergeClasses_0 54 rfl) (lv_at hl 3 rfl) ?_
      refine og_iald X hq hH 9 (by decide) rfl (inb_in c19) (dk DX8_mergeClasses_0 55 rfl) ?_
      refine og_iast X hq hH 9 (by decide) rfl (inb_in c19) (dk DX8_mergeClasses_0 56 rfl) (fun H locs hH => ?_)
      obtain ⟨t21, e22⟩ : ∃ y, y = oA s_t 9 (upd (s_t.2.2.1 9) (b4 : Int32).toNatClampNeg (s_t.2.2.1 9 (b4 : Int32).toNatClampNeg)) := ⟨_, rfl⟩
      rw [← e22] at hH
      replace hF := bnd_e hF e22
      obtain ⟨v23, e24⟩ : ∃ y : Int32, y = b4 + 1 := ⟨_, rfl⟩
      replace hF := bnd_e hF e24
      refine lv_iinc (v := v23) (lv' := [(4, .int v23), (0, .ref (q 10)), (1, .int b1), (3, .int b3)]) X.x X.b (dk DX8_mergeClasses_0 57 rfl) hl (k := 3) rfl (by rw [e24]; rfl) (by decide) rfl (fun ls hl => ?_)
      replace hl : lv_has ls 5 [(0, .ref (q 10)), (1, .int b1), (3, .int b3), (4, .int v23)] := lv_sub hl [1, 2, 3, 0] rfl
      refine lv_goto (tgt := 58) X.x X.b (dk DX8_mergeClasses_0 58 rfl) (by decide) ?_
      exact (lp_l hF hx) _ _ _ hH (lv_sub hl [0, 1, 2, 3] rfl) K0
    · replace hF := if_t hF c20
      refine lv_aload_n X.x X.b (dk DX8_mergeClasses_0 47 rfl) rfl (lv_at hl 0 rfl) ?_
      refine og_getR (t := 0) OX8 X hq hH 9 (by decide) rfl kF_X8_36 (dk DX8_mergeClasses_0 48 rfl) ?_
      refine lv_iload_n X.x X.b (dk DX8_mergeClasses_0 49 rfl) rfl (lv_at hl 1 rfl) ?_
      obtain ⟨c25, hF⟩ := gd hF
      refine og_iald X hq hH 9 (by decide) rfl (inb_in c25) (dk DX8_mergeClasses_0 50 rfl) ?_
      refine lv_goto (tgt := 98) X.x X.b (dk DX8_mergeClasses_0 51 rfl) (by decide) ?_
      refine og_iast X hq hH 9 (by decide) rfl (inb_in c19) (dk DX8_mergeClasses_0 56 rfl) (fun H locs hH => ?_)
      obtain ⟨t26, e27⟩ : ∃ y, y = oA s_t 9 (upd (s_t.2.2.1 9) (b4 : Int32).toNatClampNeg (s_t.2.2.1 9 (b1 : Int32).toNatClampNeg)) := ⟨_, rfl⟩
      rw [← e27] at hH
      replace hF := bnd_e hF e27
      obtain ⟨v28, e29⟩ : ∃ y : Int32, y = b4 + 1 := ⟨_, rfl⟩
      replace hF := bnd_e hF e29
      refine lv_iinc (v := v28) (lv' := [(4, .int v28), (0, .ref (q 10)), (1, .int b1), (3, .int b3)]) X.x X.b (dk DX8_mergeClasses_0 57 rfl) hl (k := 3) rfl (by rw [e29]; rfl) (by decide) rfl (fun ls hl => ?_)
      replace hl : lv_has ls 5 [(0, .ref (q 10)), (1, .int b1), (3, .int b3), (4, .int v28)] := lv_sub hl [1, 2, 3, 0] rfl
      refine lv_goto (tgt := 58) X.x X.b (dk DX8_mergeClasses_0 58 rfl) (by decide) ?_
      exact (lp_l hF hx) _ _ _ hH (lv_sub hl [0, 1, 2, 3] rfl) K0
set_option maxHeartbeats 4000000 in
set_option maxRecDepth 100000 in
theorem w_X8_mergeClasses_2 {p : Program} {l : Launch} {e : Env} {s : State} {m : MethodId} {args : Array Value} {below : List Frame} {meth : Method} {c : Code} {Q : State → Prop} {G : mG} {h : mM} {q : Nat → Nat} (hq : oinj LX8 q) (X : mX G p m c cX8_mergeClasses 5 s args RX8) : ∀ (z : OS × Int32) (r : OS), lpv (f_X8_mergeClasses_2) z = some r → ∀ (H : Heap) (locs : List Loc) (ls : Array Slot), mH G (oset LX8 G q z.1 h) s.heap H locs → lv_has ls 5 [(0, .ref (q 10)), (1, .int z.2)] → (∀ (H : Heap) (locs : List Loc) (ls : Array Slot), mH G (oset LX8 G q r h) s.heap H locs → lv_has ls 5 [] → W p l e rm_X8_mergeClasses s m args below meth c H locs 0 0 Q (F0 m 111 ls [])) → W p l e rm_X8_mergeClasses s m args below meth c H locs 0 0 Q (F0 m 2 ls []) := by
  refine lpv_rec ?_
  intro z r x hF hx H locs ls hH hl K0
  obtain ⟨s_t, b1⟩ := z
  dsimp only [f_X8_mergeClasses_2] at hF
  try dsimp only at hH hl
  refine lv_iload_n X.x X.b (dk DX8_mergeClasses_0 2 rfl) rfl (lv_at hl 1 rfl) ?_
  refine lv_aload_n X.x X.b (dk DX8_mergeClasses_0 3 rfl) rfl (lv_at hl 0 rfl) ?_
  refine og_getI OX8 X hq hH 0 (by decide) rfl kF_X8_43 (dk DX8_mergeClasses_0 4 rfl) ?_
  refine lv_icmp_ge (tgt := 111) X.x X.b (dk DX8_mergeClasses_0 5 rfl) (by decide) (fun c1 => ?_) (fun c1 => ?_)
  · replace hF := if_t hF c1
    have hr9 := lp_r hF hx
    subst hr9
    exact K0 _ _ _ hH (lv_sub hl [] rfl)
  · replace hF := if_f hF c1
    refine lv_iload_n X.x X.b (dk DX8_mergeClasses_0 6 rfl) rfl (lv_at hl 1 rfl) ?_
    refine lv_bipush (v := 16) X.x X.b (dk DX8_mergeClasses_0 7 rfl) (by decide) ?_
    refine lv_icmp_ge (tgt := 111) X.x X.b (dk DX8_mergeClasses_0 8 rfl) (by decide) (fun c2 => ?_) (fun c2 => ?_)
    · replace hF := if_t hF c2
      have hr9 := lp_r hF hx
      subst hr9
      exact K0 _ _ _ hH (lv_sub hl [] rfl)
    · replace hF := if_f hF c2
      refine lv_aload_n X.x X.b (dk DX8_mergeClasses_0 9 rfl) rfl (lv_at hl 0 rfl) ?_
      refine og_getR (t := 0) OX8 X hq hH 8 (by decide) rfl kF_X8_32 (dk DX8_mergeClasses_0 10 rfl) ?_
      refine lv_iload_n X.x X.b (dk DX8_mergeClasses_0 11 rfl) rfl (lv_at hl 1 rfl) ?_
      obtain ⟨c3, hF⟩ := gd hF
      refine og_iald X hq hH 8 (by decide) rfl (inb_in c3) (dk DX8_mergeClasses_0 12 rfl) ?_
      refine lv_topi (fun v4 e5 => ?_)
      replace hF := bnd_e hF e5
      refine lv_istore_n (lv' := [(2, .int v4), (0, .ref (q 10)), (1, .int b1)]) X.x X.b (dk DX8_mergeClasses_0 13 rfl) rfl hl (by decide) rfl (fun ls hl => ?_)
      replace hl : lv_has ls 5 [(0, .ref (q 10)), (1, .int b1), (2, .int v4)] := lv_sub hl [1, 2, 0] rfl
      refine lv_iload_n X.x X.b (dk DX8_mergeClasses_0 14 rfl) rfl (lv_at hl 2 rfl) ?_
      refine lv_if_lt (tgt := 105) X.x X.b (dk DX8_mergeClasses_0 15 rfl) (by decide) (fun c6 => ?_) (fun c6 => ?_)
      · replace hF := if_t hF c6
        obtain ⟨v7, e8⟩ : ∃ y : Int32, y = b1 + 1 := ⟨_, rfl⟩
        replace hF := bnd_e hF e8
        refine lv_iinc (v := v7) (lv' := [(1, .int v7), (0, .ref (q 10)), (2, .int v4)]) X.x X.b (dk DX8_mergeClasses_0 59 rfl) hl (k := 1) rfl (by rw [e8]; rfl) (by decide) rfl (fun ls hl => ?_)
        replace hl : lv_has ls 5 [(0, .ref (q 10)), (1, .int v7)] := lv_sub hl [1, 0] rfl
        refine lv_goto (tgt := 2) X.x X.b (dk DX8_mergeClasses_1 0 rfl) (by decide) ?_
        exact (lp_l hF hx) _ _ _ hH (lv_sub hl [0, 1] rfl) K0
      · replace hF := if_f hF c6
        refine lv_iload_n X.x X.b (dk DX8_mergeClasses_0 16 rfl) rfl (lv_at hl 2 rfl) ?_
        refine lv_bipush (v := 16) X.x X.b (dk DX8_mergeClasses_0 17 rfl) (by decide) ?_
        refine lv_icmp_ge (tgt := 105) X.x X.b (dk DX8_mergeClasses_0 18 rfl) (by decide) (fun c9 => ?_) (fun c9 => ?_)
        · replace hF := if_t hF c9
          obtain ⟨v10, e11⟩ : ∃ y : Int32, y = b1 + 1 := ⟨_, rfl⟩
          replace hF := bnd_e hF e11
          refine lv_iinc (v := v10) (lv' := [(1, .int v10), (0, .ref (q 10)), (2, .int v4)]) X.x X.b (dk DX8_mergeClasses_0 59 rfl) hl (k := 1) rfl (by rw [e11]; rfl) (by decide) rfl (fun ls hl => ?_)
          replace hl : lv_has ls 5 [(0, .ref (q 10)), (1, .int v10)] := lv_sub hl [1, 0] rfl
          refine lv_goto (tgt := 2) X.x X.b (dk DX8_mergeClasses_1 0 rfl) (by decide) ?_
          exact (lp_l hF hx) _ _ _ hH (lv_sub hl [0, 1] rfl) K0
        · replace hF := if_f hF c9
          refine lv_aload_n X.x X.b (dk DX8_mergeClasses_0 19 rfl) rfl (lv_at hl 0 rfl) ?_
          refine og_getR (t := 0) OX8 X hq hH 9 (by decide) rfl kF_X8_36 (dk DX8_mergeClasses_0 20 rfl) ?_
          refine lv_iload_n X.x X.b (dk DX8_mergeClasses_0 21 rfl) rfl (lv_at hl 2 rfl) ?_
          obtain ⟨c12, hF⟩ := gd hF
          refine og_iald X hq hH 9 (by decide) rfl (inb_in c12) (dk DX8_mergeClasses_0 22 rfl) ?_
          refine lv_aload_n X.x X.b (dk DX8_mergeClasses_0 23 rfl) rfl (lv_at hl 0 rfl) ?_
          refine og_getR (t := 0) OX8 X hq hH 9 (by decide) rfl kF_X8_36 (dk DX8_mergeClasses_0 24 rfl) ?_
          refine lv_iload_n X.x X.b (dk DX8_mergeClasses_0 25 rfl) rfl (lv_at hl 1 rfl) ?_
          refine og_iald X hq hH 9 (by decide) rfl (inb_in c3) (dk DX8_mergeClasses_0 26 rfl) ?_
          refine lv_icmp_eq (tgt := 105) X.x X.b (dk DX8_mergeClasses_0 27 rfl) (by decide) (fun c13 => ?_) (fun c13 => ?_)
          · replace hF := if_t hF c13
            obtain ⟨v14, e15⟩ : ∃ y : Int32, y = b1 + 1 := ⟨_, rfl⟩
            replace hF := bnd_e hF e15
            refine lv_iinc (v := v14) (lv' := [(1, .int v14), (0, .ref (q 10)), (2, .int v4)]) X.x X.b (dk DX8_mergeClasses_0 59 rfl) hl (k := 1) rfl (by rw [e15]; rfl) (by decide) rfl (fun ls hl => ?_)
            replace hl : lv_has ls 5 [(0, .ref (q 10)), (1, .int v14)] := lv_sub hl [1, 0] rfl
            refine lv_goto (tgt := 2) X.x X.b (dk DX8_mergeClasses_1 0 rfl) (by decide) ?_
            exact (lp_l hF hx) _ _ _ hH (lv_sub hl [0, 1] rfl) K0
          · replace hF := if_f hF c13
            refine lv_aload_n X.x X.b (dk DX8_mergeClasses_0 28 rfl) rfl (lv_at hl 0 rfl) ?_
            refine og_getR (t := 0) OX8 X hq hH 9 (by decide) rfl kF_X8_36 (dk DX8_mergeClasses_0 29 rfl) ?_
            refine lv_iload_n X.x X.b (dk DX8_mergeClasses_0 30 rfl) rfl (lv_at hl 2 rfl) ?_
            refine og_iald X hq hH 9 (by decide) rfl (inb_in c12) (dk DX8_mergeClasses_0 31 rfl) ?_
            refine lv_topi (fun v16 e17 => ?_)
            replace hF := bnd_e hF e17
            refine lv_istore_n (lv' := [(3, .int v16), (0, .ref (q 10)), (1, .int b1), (2, .int v4)]) X.x X.b (dk DX8_mergeClasses_0 32 rfl) rfl hl (by decide) rfl (fun ls hl => ?_)
            replace hl : lv_has ls 5 [(0, .ref (q 10)), (1, .int b1), (3, .int v16)] := lv_sub hl [1, 2, 0] rfl
            refine lv_iconst (v := 0) X.x X.b (dk DX8_mergeClasses_0 33 rfl) (by decide) ?_
            refine lv_istore (lv' := [(4, .int 0), (0, .ref (q 10)), (1, .int b1), (3, .int v16)]) X.x X.b (dk DX8_mergeClasses_0 34 rfl) hl (by decide) rfl (fun ls hl => ?_)
            replace hl : lv_has ls 5 [(0, .ref (q 10)), (1, .int b1), (3, .int v16), (4, .int 0)] := lv_sub hl [1, 2, 3, 0] rfl
            obtain ⟨x30, e31, hF⟩ := bd hF
            replace hl : lv_has ls 5 [(0, .ref (q 10)), (1, .int b1), (3, .int v16), (4, .int 0)] := lv_sub hl [0, 1, 2, 3] rfl
            refine w_X8_mergeClasses_58 hq X b1 v16 _ _ e31 _ _ _ hH hl (fun H locs ls hH hl => ?_)
            obtain ⟨v33, e34⟩ : ∃ y : Int32, y = b1 + 1 := ⟨_, rfl⟩
            replace hF := bnd_e hF e34
            refine lv_iinc (v := v33) (lv' := [(1, .int v33), (0, .ref (q 10))]) X.x X.b (dk DX8_mergeClasses_0 59 rfl) hl (k := 1) rfl (by rw [e34]; rfl) (by decide) rfl (fun ls hl => ?_)
            replace hl : lv_has ls 5 [(0, .ref (q 10)), (1, .int v33)] := lv_sub hl [1, 0] rfl
            refine lv_goto (tgt := 2) X.x X.b (dk DX8_mergeClasses_1 0 rfl) (by decide) ?_
            exact (lp_l hF hx) _ _ _ hH (lv_sub hl [0, 1] rfl) K0
set_option maxHeartbeats 4000000 in
set_option maxRecDepth 100000 in
theorem c_X8_mergeClasses {l : Launch} {G : mG} {h : mM} {q : Nat → Nat} (hq : oinj LX8 q) {st : OS} {x : OS} (hF : f_X8_mergeClasses st = some x) : cQ l G yX8_mergeClasses cX8_mergeClasses 5 none rm_X8_mergeClasses [.ref (q 10)] (oset LX8 G q st h) (mQv G (fun h1 => h1 = oset LX8 G q x h)) := by
  refine mp_of (by decide +kernel) (Nat.le_of_ble_eq_true rfl) ?_
  intro p e s m below meth c X hr hlk hH hname ls hl
  dsimp only [f_X8_mergeClasses] at hF
  replace hl : lv_has ls 5 [(0, .ref (q 10))] := hl
  refine lv_iconst (v := 0) X.x X.b (dk DX8_mergeClasses_0 0 rfl) (by decide) ?_
  refine lv_istore_n (lv' := [(1, .int 0), (0, .ref (q 10))]) X.x X.b (dk DX8_mergeClasses_0 1 rfl) rfl hl (by decide) rfl (fun ls hl => ?_)
  replace hl : lv_has ls 5 [(0, .ref (q 10)), (1, .int 0)] := lv_sub hl [1, 0] rfl
  obtain ⟨x35, e36, hF⟩ := bd hF
  replace hl : lv_has ls 5 [(0, .ref (q 10)), (1, .int 0)] := lv_sub hl [0, 1] rfl
  refine w_X8_mergeClasses_2 hq X _ _ e36 _ _ _ hH hl (fun H locs ls hH hl => ?_)
  cases sm hF
  exact mr_vret X hr hlk hH rfl (dk DX8_mergeClasses_1 1 rfl)
-- X8_widenClass
abbrev rm_X8_widenClass : Room := { frames := 24, cells := 0, slots := 0, locals := 578 }
theorem hd_X8_widenClass : mHd yX8_widenClass 1 := ⟨by decide +kernel, by decide +kernel, by decide +kernel⟩
theorem DX8_widenClass_0 : ∀ t ∈ ([(0, .lconst 0, 1), (1, .lstore_n 2, 1), (2, .iload_n 1, 1), (3, .iconst 1, 1), (4, .iadd, 1), (5, .istore 4, 2), (7, .iload 4, 2), (9, .aload_n 0, 1), (10, .getfield 43, 3), (13, .if_icmp .ge 65, 3), (16, .iload 4, 2), (18, .bipush 16, 2), (20, .if_icmp .ge 58, 3), (23, .lload_n 2, 1), (24, .aload_n 0, 1), (25, .iload_n 1, 1), (26, .invokevirtual 51, 3), (29, .lor, 1), (30, .iload 4, 2), (32, .invokestatic 79, 3), (35, .ifCond .eq 6, 3), (38, .goto 34, 3), (41, .aload_n 0, 1), (42, .iload_n 1, 1), (43, .iload 4, 2), (45, .invokevirtual 83, 3), (48, .aload_n 0, 1), (49, .iconst 0, 1), (50, .invokestatic 65, 3), (53, .ifCond .eq 10, 3), (56, .aload_n 0, 1), (57, .invokevirtual 87, 3), (60, .goto 12, 3), (63, .lload_n 2, 1), (64, .aload_n 0, 1), (65, .iload 4, 2), (67, .invokevirtual 51, 3), (70, .lor, 1), (71, .lstore_n 2, 1), (72, .iinc 4 1, 3), (75, .goto (-68), 3), (78, .return_, 1)] : List (Nat × Instr × Nat)), decode cX8_widenClass t.1 = .ok (t.2.1, t.2.2) := by decide +kernel
noncomputable def f_X8_widenClass_7 (b1 : Int32) : (OS × Int64 × Int32) → Option ((OS × Int64 × Int32) ⊕ (OS)) := fun z => match z with | (s_t, b2, b4) => (if (s_t.1 0) ≤ b4 then some (.inr s_t) else (if 16 ≤ b4 then some (.inr s_t) else (f_X8_classOf s_t b1).bind (fun x5 => (f_X10_has (b2 ||| x5) b4).bind (fun x8 => (if x8 = 0 then (f_X8_tellFirstApart s_t b1 b4).bind (fun x12 => (f_X8_carryOn 20 x12 0).bind (fun x15 => match x15 with | (v17, t18) => (if v17 = 0 then (f_X8_classOf t18 b4).bind (fun x20 => bnd (b2 ||| x20 : Int64) (fun v23 => bnd (b4 + 1 : Int32) (fun v25 => some (.inl ((t18, v23, v25)))))) else (f_X8_mergeClasses t18).bind (fun x27 => bnd (b4 + 1 : Int32) (fun v30 => some (.inl ((x27, b2, v30)))))))) else bnd (b4 + 1 : Int32) (fun v32 => some (.inl ((s_t, b2, v32)))))))))
noncomputable def f_X8_widenClass (st : OS) (a0 : Int32) : Option (OS) := bnd (a0 + 1 : Int32) (fun v1 => (lpv (f_X8_widenClass_7 a0) ((st, 0, v1))).bind (fun x34 => some x34))
set_option maxHeartbeats 4000000 in
set_option maxRecDepth 100000 in
theorem w_X8_widenClass_7 {p : Program} {l : Launch} {e : Env} {s : State} {m : MethodId} {args : Array Value} {below : List Frame} {meth : Method} {c : Code} {Q : State → Prop} {G : mG} {h : mM} {q : Nat → Nat} (hq : oinj LX8 q) (X : mX G p m c cX8_widenClass 5 s args RX8) (b1 : Int32) : ∀ (z : OS × Int64 × Int32) (r : OS), lpv (f_X8_widenClass_7 b1) z = some r → ∀ (H : Heap) (locs : List Loc) (ls : Array Slot), mH G (oset LX8 G q z.1 h) s.heap H locs → lv_has ls 5 [(0, .ref (q 10)), (1, .int b1), (2, .long z.2.1), (4, .int z.2.2)] → (∀ (H : Heap) (locs : List Loc) (ls : Array Slot), mH G (oset LX8 G q r h) s.heap H locs → lv_has ls 5 [] → W p l e rm_X8_widenClass s m args below meth c H locs 0 0 Q (F0 m 78 ls [])) → W p l e rm_X8_widenClass s m args below meth c H locs 0 0 Q (F0 m 7 ls []) := by
  refine lpv_rec ?_
  intro z r x hF hx H locs ls hH hl K0
  obtain ⟨s_t, b2, b4⟩ := z
  dsimp only [f_X8_widenClass_7] at hF
  try dsimp only at hH hl
  refine lv_iload X.x X.b (dk DX8_widenClass_0 6 rfl) (lv_at hl 3 rfl) ?_
  refine lv_aload_n X.x X.b (dk DX8_widenClass_0 7 rfl) rfl (lv_at hl 0 rfl) ?_
  refine og_getI OX8 X hq hH 0 (by decide) rfl kF_X8_43 (dk DX8_widenClass_0 8 rfl) ?_
  refine lv_icmp_ge (tgt := 78) X.x X.b (dk DX8_widenClass_0 9 rfl) (by decide) (fun c3 => ?_) (fun c3 => ?_)
  · replace hF := if_t hF c3
    have hr9 := lp_r hF hx
    subst hr9
    exact K0 _ _ _ hH (lv_sub hl [] rfl)
  · replace hF := if_f hF c3
    refine lv_iload X.x X.b (dk DX8_widenClass_0 10 rfl) (lv_at hl 3 rfl) ?_
    refine lv_bipush (v := 16) X.x X.b (dk DX8_widenClass_0 11 rfl) (by decide) ?_
    refine lv_icmp_ge (tgt := 78) X.x X.b (dk DX8_widenClass_0 12 rfl) (by decide) (fun c4 => ?_) (fun c4 => ?_)
    · replace hF := if_t hF c4
      have hr9 := lp_r hF hx
      subst hr9
      exact K0 _ _ _ hH (lv_sub hl [] rfl)
    · replace hF := if_f hF c4
      refine lv_lload_n X.x X.b (dk DX8_widenClass_0 13 rfl) rfl (lv_at hl 2 rfl) ?_
      refine lv_aload_n X.x X.b (dk DX8_widenClass_0 14 rfl) rfl (lv_at hl 0 rfl) ?_
      refine lv_iload_n X.x X.b (dk DX8_widenClass_0 15 rfl) rfl (lv_at hl 1 rfl) ?_
      obtain ⟨x5, e6, hF⟩ := bd hF
      refine mr_cl0 hH ⟨rfl, rfl⟩ (mr_runV (As := [.int b1]) (rest := [.long b2]) X hH (c_X8_classOf hq e6) ((oset_at hq (Nat.le_refl _) ohas_N).trans (congrArg some ocell_N)) OX8.1 kM_X8_51 kI_X8_classOf kS_X8_classOf kN_X8 kC_X8_classOf hd_X8_classOf ⟨Nat.le_of_ble_eq_true rfl, Nat.le_of_ble_eq_true rfl⟩ rfl hl.1 (Nat.le_of_ble_eq_true rfl) (dk DX8_widenClass_0 16 rfl) ⟨Nat.zero_le _, Nat.zero_le _⟩) (fun r h1 H locs hp hH => ?_)
      obtain ⟨hr1, hr2⟩ := hp; rw [hr1]; rw [hr2] at hH; clear hr1 hr2
      refine lv_lor X.x X.b (dk DX8_widenClass_0 17 rfl) ?_
      refine lv_iload X.x X.b (dk DX8_widenClass_0 18 rfl) (lv_at hl 3 rfl) ?_
      obtain ⟨x8, e9, hF⟩ := bd hF
      refine mr_ci0 hH ⟨rfl, rfl⟩ (mr_runS (As := [.long (b2 ||| x5), .int b4]) (rest := []) X hH (c_X10_has e9) kM_X8_79 kT_X10_has kN_X10 kC_X10_has hd_X10_has ⟨Nat.le_of_ble_eq_true rfl, Nat.le_of_ble_eq_true rfl⟩ rfl hl.1 (Nat.le_of_ble_eq_true rfl) (dk DX8_widenClass_0 19 rfl) ⟨Nat.zero_le _, Nat.zero_le _⟩) (fun r h1 H locs hp hH => ?_)
      obtain ⟨hr1, hr2⟩ := hp; rw [hr1]; rw [hr2] at hH; clear hr1 hr2
      refine lv_if_eq (tgt := 41) X.x X.b (dk DX8_widenClass_0 20 rfl) (by decide) (fun c11 => ?_) (fun c11 => ?_)
      · replace hF := if_t hF c11
        refine lv_aload_n X.x X.b (dk DX8_widenClass_0 22 rfl) rfl (lv_at hl 0 rfl) ?_
        refine lv_iload_n X.x X.b (dk DX8_widenClass_0 23 rfl) rfl (lv_at hl 1 rfl) ?_
        refine lv_iload X.x X.b (dk DX8_widenClass_0 24 rfl) (lv_at hl 3 rfl) ?_
        obtain ⟨x12, e13, hF⟩ := bd hF
        refine mr_cv0 hH ⟨rfl, rfl⟩ (mr_runV (As := [.int b1, .int b4]) (rest := []) X hH (c_X8_tellFirstApart hq e13) ((oset_at hq (Nat.le_refl _) ohas_N).trans (congrArg some ocell_N)) OX8.1 kM_X8_83 kI_X8_tellFirstApart kS_X8_tellFirstApart kN_X8 kC_X8_tellFirstApart hd_X8_tellFirstApart ⟨Nat.le_of_ble_eq_true rfl, Nat.le_of_ble_eq_true rfl⟩ rfl hl.1 (Nat.le_of_ble_eq_true rfl) (dk DX8_widenClass_0 25 rfl) ⟨Nat.zero_le _, Nat.zero_le _⟩) (fun h1 H locs hp hH => ?_)
        rw [hp] at hH; clear hp
        refine lv_aload_n X.x X.b (dk DX8_widenClass_0 26 rfl) rfl (lv_at hl 0 rfl) ?_
        refine lv_iconst (v := 0) X.x X.b (dk DX8_widenClass_0 27 rfl) (by decide) ?_
        obtain ⟨x15, e16, hF⟩ := bd hF
        refine mr_ci0 hH ⟨rfl, rfl⟩ (mr_runS (As := [.ref (q 10), .int 0]) (rest := []) X hH (c_X8_carryOn hq 20 x12 0 _ e16) kM_X8_65 kT_X8_carryOn kN_X8 kC_X8_carryOn hd_X8_carryOn ⟨Nat.le_of_ble_eq_true rfl, Nat.le_of_ble_eq_true rfl⟩ rfl hl.1 (Nat.le_of_ble_eq_true rfl) (dk DX8_widenClass_0 28 rfl) ⟨Nat.zero_le _, Nat.zero_le _⟩) (fun r h1 H locs hp hH => ?_)
        obtain ⟨hr1, hr2⟩ := hp; rw [hr1]; rw [hr2] at hH; clear hr1 hr2
        obtain ⟨v17, t18⟩ := x15
        try dsimp only at hF hH ⊢
        refine lv_if_eq (tgt := 63) X.x X.b (dk DX8_widenClass_0 29 rfl) (by decide) (fun c19 => ?_) (fun c19 => ?_)
        · replace hF := if_t hF c19
          refine lv_lload_n X.x X.b (dk DX8_widenClass_0 33 rfl) rfl (lv_at hl 2 rfl) ?_
          refine lv_aload_n X.x X.b (dk DX8_widenClass_0 34 rfl) rfl (lv_at hl 0 rfl) ?_
          refine lv_iload X.x X.b (dk DX8_widenClass_0 35 rfl) (lv_at hl 3 rfl) ?_
          obtain ⟨x20, e21, hF⟩ := bd hF
          refine mr_cl0 hH ⟨rfl, rfl⟩ (mr_runV (As := [.int b4]) (rest := [.long b2]) X hH (c_X8_classOf hq e21) ((oset_at hq (Nat.le_refl _) ohas_N).trans (congrArg some ocell_N)) OX8.1 kM_X8_51 kI_X8_classOf kS_X8_classOf kN_X8 kC_X8_classOf hd_X8_classOf ⟨Nat.le_of_ble_eq_true rfl, Nat.le_of_ble_eq_true rfl⟩ rfl hl.1 (Nat.le_of_ble_eq_true rfl) (dk DX8_widenClass_0 36 rfl) ⟨Nat.zero_le _, Nat.zero_le _⟩) (fun r h1 H locs hp hH => ?_)
          obtain ⟨hr1, hr2⟩ := hp; rw [hr1]; rw [hr2] at hH; clear hr1 hr2
          refine lv_lor X.x X.b (dk DX8_widenClass_0 37 rfl) ?_
          refine lv_topl (fun v23 e24 => ?_)
          replace hF := bnd_e hF e24
          refine lv_lstore_n (lv' := [(2, .long v23), (0, .ref (q 10)), (1, .int b1), (4, .int b4)]) X.x X.b (dk DX8_widenClass_0 38 rfl) rfl hl (by decide) rfl (fun ls hl => ?_)
          replace hl : lv_has ls 5 [(0, .ref (q 10)), (1, .int b1), (2, .long v23), (4, .int b4)] := lv_sub hl [1, 2, 0, 3] rfl
          obtain ⟨v25, e26⟩ : ∃ y : Int32, y = b4 + 1 := ⟨_, rfl⟩
          replace hF := bnd_e hF e26
          refine lv_iinc (v := v25) (lv' := [(4, .int v25), (0, .ref (q 10)), (1, .int b1), (2, .long v23)]) X.x X.b (dk DX8_widenClass_0 39 rfl) hl (k := 3) rfl (by rw [e26]; rfl) (by decide) rfl (fun ls hl => ?_)
          replace hl : lv_has ls 5 [(0, .ref (q 10)), (1, .int b1), (2, .long v23), (4, .int v25)] := lv_sub hl [1, 2, 3, 0] rfl
          refine lv_goto (tgt := 7) X.x X.b (dk DX8_widenClass_0 40 rfl) (by decide) ?_
          exact (lp_l hF hx) _ _ _ hH (lv_sub hl [0, 1, 2, 3] rfl) K0
        · replace hF := if_f hF c19
          refine lv_aload_n X.x X.b (dk DX8_widenClass_0 30 rfl) rfl (lv_at hl 0 rfl) ?_
          obtain ⟨x27, e28, hF⟩ := bd hF
          refine mr_cv0 hH ⟨rfl, rfl⟩ (mr_runV (As := []) (rest := []) X hH (c_X8_mergeClasses hq e28) ((oset_at hq (Nat.le_refl _) ohas_N).trans (congrArg some ocell_N)) OX8.1 kM_X8_87 kI_X8_mergeClasses kS_X8_mergeClasses kN_X8 kC_X8_mergeClasses hd_X8_mergeClasses ⟨Nat.le_of_ble_eq_true rfl, Nat.le_of_ble_eq_true rfl⟩ rfl hl.1 (Nat.le_of_ble_eq_true rfl) (dk DX8_widenClass_0 31 rfl) ⟨Nat.zero_le _, Nat.zero_le _⟩) (fun h1 H locs hp hH => ?_)
          rw [hp] at hH; clear hp
          refine lv_goto (tgt := 72) X.x X.b (dk DX8_widenClass_0 32 rfl) (by decide) ?_
          obtain ⟨v30, e31⟩ : ∃ y : Int32, y = b4 + 1 := ⟨_, rfl⟩
          replace hF := bnd_e hF e31
          refine lv_iinc (v := v30) (lv' := [(4, .int v30), (0, .ref (q 10)), (1, .int b1), (2, .long b2)]) X.x X.b (dk DX8_widenClass_0 39 rfl) hl (k := 3) rfl (by rw [e31]; rfl) (by decide) rfl (fun ls hl => ?_)
          replace hl : lv_has ls 5 [(0, .ref (q 10)), (1, .int b1), (2, .long b2), (4, .int v30)] := lv_sub hl [1, 2, 3, 0] rfl
          refine lv_goto (tgt := 7) X.x X.b (dk DX8_widenClass_0 40 rfl) (by decide) ?_
          exact (lp_l hF hx) _ _ _ hH (lv_sub hl [0, 1, 2, 3] rfl) K0
      · replace hF := if_f hF c11
        refine lv_goto (tgt := 72) X.x X.b (dk DX8_widenClass_0 21 rfl) (by decide) ?_
        obtain ⟨v32, e33⟩ : ∃ y : Int32, y = b4 + 1 := ⟨_, rfl⟩
        replace hF := bnd_e hF e33
        refine lv_iinc (v := v32) (lv' := [(4, .int v32), (0, .ref (q 10)), (1, .int b1), (2, .long b2)]) X.x X.b (dk DX8_widenClass_0 39 rfl) hl (k := 3) rfl (by rw [e33]; rfl) (by decide) rfl (fun ls hl => ?_)
        replace hl : lv_has ls 5 [(0, .ref (q 10)), (1, .int b1), (2, .long b2), (4, .int v32)] := lv_sub hl [1, 2, 3, 0] rfl
        refine lv_goto (tgt := 7) X.x X.b (dk DX8_widenClass_0 40 rfl) (by decide) ?_
        exact (lp_l hF hx) _ _ _ hH (lv_sub hl [0, 1, 2, 3] rfl) K0
set_option maxHeartbeats 4000000 in
set_option maxRecDepth 100000 in
theorem c_X8_widenClass {l : Launch} {G : mG} {h : mM} {q : Nat → Nat} (hq : oinj LX8 q) {st : OS} {a0 : Int32} {x : OS} (hF : f_X8_widenClass st a0 = some x) : cQ l G yX8_widenClass cX8_widenClass 5 none rm_X8_widenClass [.ref (q 10), .int a0] (oset LX8 G q st h) (mQv G (fun h1 => h1 = oset LX8 G q x h)) := by
  refine mp_of (by decide +kernel) (Nat.le_of_ble_eq_true rfl) ?_
  intro p e s m below meth c X hr hlk hH hname ls hl
  dsimp only [f_X8_widenClass] at hF
  replace hl : lv_has ls 5 [(0, .ref (q 10)), (1, .int a0)] := hl
  refine lv_lconst (v := 0) X.x X.b (dk DX8_widenClass_0 0 rfl) (by decide) ?_
  refine lv_lstore_n (lv' := [(2, .long 0), (0, .ref (q 10)), (1, .int a0)]) X.x X.b (dk DX8_widenClass_0 1 rfl) rfl hl (by decide) rfl (fun ls hl => ?_)
  replace hl : lv_has ls 5 [(0, .ref (q 10)), (1, .int a0), (2, .long 0)] := lv_sub hl [1, 2, 0] rfl
  refine lv_iload_n X.x X.b (dk DX8_widenClass_0 2 rfl) rfl (lv_at hl 1 rfl) ?_
  refine lv_iconst (v := 1) X.x X.b (dk DX8_widenClass_0 3 rfl) (by decide) ?_
  refine lv_iadd X.x X.b (dk DX8_widenClass_0 4 rfl) ?_
  refine lv_topi (fun v1 e2 => ?_)
  replace hF := bnd_e hF e2
  refine lv_istore (lv' := [(4, .int v1), (0, .ref (q 10)), (1, .int a0), (2, .long 0)]) X.x X.b (dk DX8_widenClass_0 5 rfl) hl (by decide) rfl (fun ls hl => ?_)
  replace hl : lv_has ls 5 [(0, .ref (q 10)), (1, .int a0), (2, .long 0), (4, .int v1)] := lv_sub hl [1, 2, 3, 0] rfl
  obtain ⟨x34, e35, hF⟩ := bd hF
  replace hl : lv_has ls 5 [(0, .ref (q 10)), (1, .int a0), (2, .long 0), (4, .int v1)] := lv_sub hl [0, 1, 2, 3] rfl
  refine w_X8_widenClass_7 hq X a0 _ _ e35 _ _ _ hH hl (fun H locs ls hH hl => ?_)
  cases sm hF
  exact mr_vret X hr hlk hH rfl (dk DX8_widenClass_0 41 rfl)
-- X8_countTurnings
abbrev rm_X8_countTurnings : Room := { frames := 25, cells := 0, slots := 0, locals := 602 }
theorem hd_X8_countTurnings : mHd yX8_countTurnings 1 := ⟨by decide +kernel, by decide +kernel, by decide +kernel⟩
theorem DX8_countTurnings_0 : ∀ t ∈ ([(0, .aload_n 0, 1), (1, .aload_n 1, 1), (2, .aload_n 1, 1), (3, .invokevirtual 39, 3), (6, .iconst 0, 1), (7, .istore_n 2, 1), (8, .iload_n 2, 1), (9, .bipush 16, 2), (11, .if_icmp .ge 16, 3), (14, .aload_n 0, 1), (15, .getfield 36, 3), (18, .iload_n 2, 1), (19, .iload_n 2, 1), (20, .iastore, 1), (21, .iinc 2 1, 3), (24, .goto (-16), 3), (27, .lconst 1, 1), (28, .lstore_n 2, 1), (29, .aload_n 0, 1), (30, .getfield 43, 3), (33, .iconst 1, 1), (34, .isub, 1), (35, .istore 4, 2), (37, .iload 4, 2), (39, .ifCond .lt 35, 3), (42, .iload 4, 2), (44, .bipush 16, 2), (46, .if_icmp .ge 28, 3), (49, .aload_n 0, 1), (50, .iload 4, 2), (52, .invokevirtual 47, 3), (55, .lload_n 2, 1), (56, .aload_n 0, 1), (57, .iload 4, 2), (59, .invokevirtual 51, 3), (62, .invokestatic 55, 3), (65, .i2l, 1), (66, .lmul, 1), (67, .lstore_n 2, 1), (68, .iinc 4 (-1), 3), (71, .goto (-34), 3), (74, .lload_n 2, 1), (75, .lreturn, 1)] : List (Nat × Instr × Nat)), decode cX8_countTurnings t.1 = .ok (t.2.1, t.2.2) := by decide +kernel
noncomputable def f_X8_countTurnings_8 (s_o1 : OS) : (OS × Int32) → Option ((OS × Int32) ⊕ (OS)) := fun z => match z with | (s_t, b2) => (if 16 ≤ b2 then some (.inr s_t) else if inb b2 16 = true then bnd (oA s_t 9 (upd (s_t.2.2.1 9) (b2 : Int32).toNatClampNeg b2)) (fun t6 => bnd (b2 + 1 : Int32) (fun v8 => some (.inl ((t6, v8))))) else none)
noncomputable def f_X8_countTurnings_37 (s_o1 : OS) : (OS × Int64 × Int32) → Option ((OS × Int64 × Int32) ⊕ (OS × Int64)) := fun z => match z with | (s_t, b2, b4) => (if b4 < 0 then some (.inr ((s_t, b2))) else (if 16 ≤ b4 then some (.inr ((s_t, b2))) else (f_X8_widenClass s_t b4).bind (fun x17 => (f_X8_classOf x17 b4).bind (fun x20 => (f_J13_bitCount_95d88 x20).bind (fun x23 => bnd (b2 * ((x23 : Int32).toInt64) : Int64) (fun v26 => bnd (b4 + (-1) : Int32) (fun v28 => some (.inl ((x17, v26, v28))))))))))
noncomputable def f_X8_countTurnings (st : OS) (st1 : OS) : Option (Int64 × OS) := (f_X8_load_same st st1).bind (fun x1 => (lpv (f_X8_countTurnings_8 st1) ((x1, 0))).bind (fun x10 => bnd ((x10.1 0) - 1 : Int32) (fun v13 => (lpv (f_X8_countTurnings_37 st1) ((x10, 1, v13))).bind (fun x30 => match x30 with | (t32, v33) => some ((v33, t32))))))
set_option maxHeartbeats 4000000 in
set_option maxRecDepth 100000 in
theorem w_X8_countTurnings_8 {p : Program} {l : Launch} {e : Env} {s : State} {m : MethodId} {args : Array Value} {below : List Frame} {meth : Method} {c : Code} {Q : State → Prop} {G : mG} {h : mM} {q : Nat → Nat} {q1 : Nat → Nat} (hq : oinj LX8 q) (hq1 : oinj LX10 q1) (ha : oap [(LX8, q), (LX10, q1)]) (X : mX G p m c cX8_countTurnings 5 s args RX8) (s_o1 : OS) : ∀ (z : OS × Int32) (r : OS), lpv (f_X8_countTurnings_8 s_o1) z = some r → ∀ (H : Heap) (locs : List Loc) (ls : Array Slot), mH G (oset LX8 G q z.1 (oset LX10 G q1 s_o1 h)) s.heap H locs → lv_has ls 5 [(0, .ref (q 10)), (2, .int z.2)] → (∀ (H : Heap) (locs : List Loc) (ls : Array Slot), mH G (oset LX8 G q r (oset LX10 G q1 s_o1 h)) s.heap H locs → lv_has ls 5 [(0, .ref (q 10))] → W p l e rm_X8_countTurnings s m args below meth c H locs 0 0 Q (F0 m 27 ls [])) → W p l e rm_X8_countTurnings s m args below meth c H locs 0 0 Q (F0 m 8 ls []) := by
  refine lpv_rec ?_
  intro z r x hF hx H locs ls hH hl K0
  obtain ⟨s_t, b2⟩ := z
  dsimp only [f_X8_countTurnings_8] at hF
  try dsimp only at hH hl
  refine lv_iload_n X.x X.b (dk DX8_countTurnings_0 6 rfl) rfl (lv_at hl 1 rfl) ?_
  refine lv_bipush (v := 16) X.x X.b (dk DX8_countTurnings_0 7 rfl) (by decide) ?_
  refine lv_icmp_ge (tgt := 27) X.x X.b (dk DX8_countTurnings_0 8 rfl) (by decide) (fun c4 => ?_) (fun c4 => ?_)
  · replace hF := if_t hF c4
    have hr9 := lp_r hF hx
    subst hr9
    exact K0 _ _ _ hH (lv_sub hl [0] rfl)
  · replace hF := if_f hF c4
    refine lv_aload_n X.x X.b (dk DX8_countTurnings_0 9 rfl) rfl (lv_at hl 0 rfl) ?_
    refine og_getR (t := 0) OX8 X hq hH 9 (by decide) rfl kF_X8_36 (dk DX8_countTurnings_0 10 rfl) ?_
    refine lv_iload_n X.x X.b (dk DX8_countTurnings_0 11 rfl) rfl (lv_at hl 1 rfl) ?_
    refine lv_iload_n X.x X.b (dk DX8_countTurnings_0 12 rfl) rfl (lv_at hl 1 rfl) ?_
    obtain ⟨c5, hF⟩ := gd hF
    refine og_iast X hq hH 9 (by decide) rfl (inb_in c5) (dk DX8_countTurnings_0 13 rfl) (fun H locs hH => ?_)
    obtain ⟨t6, e7⟩ : ∃ y, y = oA s_t 9 (upd (s_t.2.2.1 9) (b2 : Int32).toNatClampNeg b2) := ⟨_, rfl⟩
    rw [← e7] at hH
    replace hF := bnd_e hF e7
    obtain ⟨v8, e9⟩ : ∃ y : Int32, y = b2 + 1 := ⟨_, rfl⟩
    replace hF := bnd_e hF e9
    refine lv_iinc (v := v8) (lv' := [(2, .int v8), (0, .ref (q 10))]) X.x X.b (dk DX8_countTurnings_0 14 rfl) hl (k := 1) rfl (by rw [e9]; rfl) (by decide) rfl (fun ls hl => ?_)
    replace hl : lv_has ls 5 [(0, .ref (q 10)), (2, .int v8)] := lv_sub hl [1, 0] rfl
    refine lv_goto (tgt := 8) X.x X.b (dk DX8_countTurnings_0 15 rfl) (by decide) ?_
    exact (lp_l hF hx) _ _ _ hH (lv_sub hl [0, 1] rfl) K0
set_option maxHeartbeats 4000000 in
set_option maxRecDepth 100000 in
theorem w_X8_countTurnings_37 {p : Program} {l : Launch} {e : Env} {s : State} {m : MethodId} {args : Array Value} {below : List Frame} {meth : Method} {c : Code} {Q : State → Prop} {G : mG} {h : mM} {q : Nat → Nat} {q1 : Nat → Nat} (hq : oinj LX8 q) (hq1 : oinj LX10 q1) (ha : oap [(LX8, q), (LX10, q1)]) (X : mX G p m c cX8_countTurnings 5 s args RX8) (s_o1 : OS) : ∀ (z : OS × Int64 × Int32) (r : OS × Int64), lpv (f_X8_countTurnings_37 s_o1) z = some r → ∀ (H : Heap) (locs : List Loc) (ls : Array Slot), mH G (oset LX8 G q z.1 (oset LX10 G q1 s_o1 h)) s.heap H locs → lv_has ls 5 [(0, .ref (q 10)), (2, .long z.2.1), (4, .int z.2.2)] → (∀ (H : Heap) (locs : List Loc) (ls : Array Slot), mH G (oset LX8 G q r.1 (oset LX10 G q1 s_o1 h)) s.heap H locs → lv_has ls 5 [(2, .long r.2)] → W p l e rm_X8_countTurnings s m args below meth c H locs 0 0 Q (F0 m 74 ls [])) → W p l e rm_X8_countTurnings s m args below meth c H locs 0 0 Q (F0 m 37 ls []) := by
  refine lpv_rec ?_
  intro z r x hF hx H locs ls hH hl K0
  obtain ⟨s_t, b2, b4⟩ := z
  dsimp only [f_X8_countTurnings_37] at hF
  try dsimp only at hH hl
  refine lv_iload X.x X.b (dk DX8_countTurnings_0 23 rfl) (lv_at hl 2 rfl) ?_
  refine lv_if_lt (tgt := 74) X.x X.b (dk DX8_countTurnings_0 24 rfl) (by decide) (fun c15 => ?_) (fun c15 => ?_)
  · replace hF := if_t hF c15
    have hr9 := lp_r hF hx
    subst hr9
    exact K0 _ _ _ hH (lv_sub hl [1] rfl)
  · replace hF := if_f hF c15
    refine lv_iload X.x X.b (dk DX8_countTurnings_0 25 rfl) (lv_at hl 2 rfl) ?_
    refine lv_bipush (v := 16) X.x X.b (dk DX8_countTurnings_0 26 rfl) (by decide) ?_
    refine lv_icmp_ge (tgt := 74) X.x X.b (dk DX8_countTurnings_0 27 rfl) (by decide) (fun c16 => ?_) (fun c16 => ?_)
    · replace hF := if_t hF c16
      have hr9 := lp_r hF hx
      subst hr9
      exact K0 _ _ _ hH (lv_sub hl [1] rfl)
    · replace hF := if_f hF c16
      refine lv_aload_n X.x X.b (dk DX8_countTurnings_0 28 rfl) rfl (lv_at hl 0 rfl) ?_
      refine lv_iload X.x X.b (dk DX8_countTurnings_0 29 rfl) (lv_at hl 2 rfl) ?_
      obtain ⟨x17, e18, hF⟩ := bd hF
      refine mr_cv0 hH ⟨rfl, rfl⟩ (mr_runV (As := [.int b4]) (rest := []) X hH (c_X8_widenClass hq e18) ((oset_at hq (Nat.le_refl _) ohas_N).trans (congrArg some ocell_N)) OX8.1 kM_X8_47 kI_X8_widenClass kS_X8_widenClass kN_X8 kC_X8_widenClass hd_X8_widenClass ⟨Nat.le_of_ble_eq_true rfl, Nat.le_of_ble_eq_true rfl⟩ rfl hl.1 (Nat.le_of_ble_eq_true rfl) (dk DX8_countTurnings_0 30 rfl) ⟨Nat.zero_le _, Nat.zero_le _⟩) (fun h1 H locs hp hH => ?_)
      rw [hp] at hH; clear hp
      refine lv_lload_n X.x X.b (dk DX8_countTurnings_0 31 rfl) rfl (lv_at hl 1 rfl) ?_
      refine lv_aload_n X.x X.b (dk DX8_countTurnings_0 32 rfl) rfl (lv_at hl 0 rfl) ?_
      refine lv_iload X.x X.b (dk DX8_countTurnings_0 33 rfl) (lv_at hl 2 rfl) ?_
      obtain ⟨x20, e21, hF⟩ := bd hF
      refine mr_cl0 hH ⟨rfl, rfl⟩ (mr_runV (As := [.int b4]) (rest := [.long b2]) X hH (c_X8_classOf hq e21) ((oset_at hq (Nat.le_refl _) ohas_N).trans (congrArg some ocell_N)) OX8.1 kM_X8_51 kI_X8_classOf kS_X8_classOf kN_X8 kC_X8_classOf hd_X8_classOf ⟨Nat.le_of_ble_eq_true rfl, Nat.le_of_ble_eq_true rfl⟩ rfl hl.1 (Nat.le_of_ble_eq_true rfl) (dk DX8_countTurnings_0 34 rfl) ⟨Nat.zero_le _, Nat.zero_le _⟩) (fun r h1 H locs hp hH => ?_)
      obtain ⟨hr1, hr2⟩ := hp; rw [hr1]; rw [hr2] at hH; clear hr1 hr2
      obtain ⟨x23, e24, hF⟩ := bd hF
      refine mr_ci0 hH ⟨rfl, rfl⟩ (mr_runS (As := [.long x20]) (rest := [.long b2]) X hH (c_J13_bitCount_95d88 e24) kM_X8_55 kT_J13_bitCount_95d88 kN_J13 kC_J13_bitCount_95d88 hd_J13_bitCount_95d88 ⟨Nat.le_of_ble_eq_true rfl, Nat.le_of_ble_eq_true rfl⟩ rfl hl.1 (Nat.le_of_ble_eq_true rfl) (dk DX8_countTurnings_0 35 rfl) ⟨Nat.zero_le _, Nat.zero_le _⟩) (fun r h1 H locs hp hH => ?_)
      obtain ⟨hr1, hr2⟩ := hp; rw [hr1]; rw [hr2] at hH; clear hr1 hr2
      refine lv_i2l X.x X.b (dk DX8_countTurnings_0 36 rfl) rfl ?_
      refine lv_lmul X.x X.b (dk DX8_countTurnings_0 37 rfl) ?_
      refine lv_topl (fun v26 e27 => ?_)
      replace hF := bnd_e hF e27
      refine lv_lstore_n (lv' := [(2, .long v26), (0, .ref (q 10)), (4, .int b4)]) X.x X.b (dk DX8_countTurnings_0 38 rfl) rfl hl (by decide) rfl (fun ls hl => ?_)
      replace hl : lv_has ls 5 [(0, .ref (q 10)), (2, .long v26), (4, .int b4)] := lv_sub hl [1, 0, 2] rfl
      obtain ⟨v28, e29⟩ : ∃ y : Int32, y = b4 + (-1) := ⟨_, rfl⟩
      replace hF := bnd_e hF e29
      refine lv_iinc (v := v28) (lv' := [(4, .int v28), (0, .ref (q 10)), (2, .long v26)]) X.x X.b (dk DX8_countTurnings_0 39 rfl) hl (k := 2) rfl (by rw [e29]; rfl) (by decide) rfl (fun ls hl => ?_)
      replace hl : lv_has ls 5 [(0, .ref (q 10)), (2, .long v26), (4, .int v28)] := lv_sub hl [1, 2, 0] rfl
      refine lv_goto (tgt := 37) X.x X.b (dk DX8_countTurnings_0 40 rfl) (by decide) ?_
      exact (lp_l hF hx) _ _ _ hH (lv_sub hl [0, 1, 2] rfl) K0
set_option maxHeartbeats 4000000 in
set_option maxRecDepth 100000 in
theorem c_X8_countTurnings {l : Launch} {G : mG} {h : mM} {q : Nat → Nat} {q1 : Nat → Nat} (hq : oinj LX8 q) (hq1 : oinj LX10 q1) (ha : oap [(LX8, q), (LX10, q1)]) {st : OS} {st1 : OS} {x : Int64 × OS} (hF : f_X8_countTurnings st st1 = some x) : cQ l G yX8_countTurnings cX8_countTurnings 5 (some FieldType.long) rm_X8_countTurnings [.ref (q 10), .ref (q1 5)] (oset LX8 G q st (oset LX10 G q1 st1 h)) (mQl G (fun r h1 => r = x.1 ∧ h1 = oset LX8 G q x.2 (oset LX10 G q1 st1 h))) := by
  refine mp_of (by decide +kernel) (Nat.le_of_ble_eq_true rfl) ?_
  intro p e s m below meth c X hr hlk hH hname ls hl
  dsimp only [f_X8_countTurnings] at hF
  replace hl : lv_has ls 5 [(0, .ref (q 10)), (1, .ref (q1 5))] := hl
  refine lv_aload_n X.x X.b (dk DX8_countTurnings_0 0 rfl) rfl (lv_at hl 0 rfl) ?_
  refine lv_aload_n X.x X.b (dk DX8_countTurnings_0 1 rfl) rfl (lv_at hl 1 rfl) ?_
  refine lv_aload_n X.x X.b (dk DX8_countTurnings_0 2 rfl) rfl (lv_at hl 1 rfl) ?_
  obtain ⟨x1, e2, hF⟩ := bd hF
  refine mr_cv0 hH ⟨rfl, rfl⟩ (mr_runV (As := [.ref (q1 5), .ref (q1 5)]) (rest := []) X hH (c_X8_load_same hq hq1 ha e2) ((oset_at hq (Nat.le_refl _) ohas_N).trans (congrArg some ocell_N)) OX8.1 kM_X8_39 kI_X8_load kS_X8_load kN_X8 kC_X8_load hd_X8_load ⟨Nat.le_of_ble_eq_true rfl, Nat.le_of_ble_eq_true rfl⟩ rfl hl.1 (Nat.le_of_ble_eq_true rfl) (dk DX8_countTurnings_0 3 rfl) ⟨Nat.zero_le _, Nat.zero_le _⟩) (fun h1 H locs hp hH => ?_)
  rw [hp] at hH; clear hp
  refine lv_iconst (v := 0) X.x X.b (dk DX8_countTurnings_0 4 rfl) (by decide) ?_
  refine lv_istore_n (lv' := [(2, .int 0), (0, .ref (q 10)), (1, .ref (q1 5))]) X.x X.b (dk DX8_countTurnings_0 5 rfl) rfl hl (by decide) rfl (fun ls hl => ?_)
  replace hl : lv_has ls 5 [(0, .ref (q 10)), (2, .int 0)] := lv_sub hl [1, 0] rfl
  obtain ⟨x10, e11, hF⟩ := bd hF
  replace hl : lv_has ls 5 [(0, .ref (q 10)), (2, .int 0)] := lv_sub hl [0, 1] rfl
  refine w_X8_countTurnings_8 hq hq1 ha X st1 _ _ e11 _ _ _ hH hl (fun H locs ls hH hl => ?_)
  refine lv_lconst (v := 1) X.x X.b (dk DX8_countTurnings_0 16 rfl) (by decide) ?_
  refine lv_lstore_n (lv' := [(2, .long 1), (0, .ref (q 10))]) X.x X.b (dk DX8_countTurnings_0 17 rfl) rfl hl (by decide) rfl (fun ls hl => ?_)
  replace hl : lv_has ls 5 [(0, .ref (q 10)), (2, .long 1)] := lv_sub hl [1, 0] rfl
  refine lv_aload_n X.x X.b (dk DX8_countTurnings_0 18 rfl) rfl (lv_at hl 0 rfl) ?_
  refine og_getI OX8 X hq hH 0 (by decide) rfl kF_X8_43 (dk DX8_countTurnings_0 19 rfl) ?_
  refine lv_iconst (v := 1) X.x X.b (dk DX8_countTurnings_0 20 rfl) (by decide) ?_
  refine lv_isub X.x X.b (dk DX8_countTurnings_0 21 rfl) ?_
  refine lv_topi (fun v13 e14 => ?_)
  replace hF := bnd_e hF e14
  refine lv_istore (lv' := [(4, .int v13), (0, .ref (q 10)), (2, .long 1)]) X.x X.b (dk DX8_countTurnings_0 22 rfl) hl (by decide) rfl (fun ls hl => ?_)
  replace hl : lv_has ls 5 [(0, .ref (q 10)), (2, .long 1), (4, .int v13)] := lv_sub hl [1, 2, 0] rfl
  obtain ⟨x30, e31, hF⟩ := bd hF
  replace hl : lv_has ls 5 [(0, .ref (q 10)), (2, .long 1), (4, .int v13)] := lv_sub hl [0, 1, 2] rfl
  obtain ⟨t32, v33⟩ := x30
  try dsimp only at hF
  refine w_X8_countTurnings_37 hq hq1 ha X st1 _ _ e31 _ _ _ hH hl (fun H locs ls hH hl => ?_)
  try dsimp only at hH hl
  refine lv_lload_n X.x X.b (dk DX8_countTurnings_0 41 rfl) rfl (lv_at hl 0 rfl) ?_
  cases sm hF
  exact mr_lret X hr hlk hH ⟨rfl, rfl⟩ (dk DX8_countTurnings_0 42 rfl)
-- X8_areAlike
abbrev rm_X8_areAlike : Room := { frames := 24, cells := 0, slots := 0, locals := 578 }
theorem hd_X8_areAlike : mHd yX8_areAlike 2 := ⟨by decide +kernel, by decide +kernel, by decide +kernel⟩
theorem DX8_areAlike_0 : ∀ t ∈ ([(0, .aload_n 1, 1), (1, .getfield 61, 3), (4, .aload_n 2, 1), (5, .getfield 61, 3), (8, .if_icmp .ne 14, 3), (11, .aload_n 1, 1), (12, .getfield 62, 3), (15, .aload_n 2, 1), (16, .getfield 62, 3), (19, .if_icmp .eq 5, 3), (22, .iconst 0, 1), (23, .ireturn, 1), (24, .aload_n 0, 1), (25, .aload_n 1, 1), (26, .aload_n 2, 1), (27, .invokevirtual 39, 3), (30, .iconst 0, 1), (31, .istore_n 3, 1), (32, .iload_n 3, 1), (33, .bipush 16, 2), (35, .if_icmp .ge 23, 3), (38, .aload_n 0, 1), (39, .getfield 20, 3), (42, .iload_n 3, 1), (43, .lconst 0, 1), (44, .lastore, 1), (45, .aload_n 0, 1), (46, .getfield 23, 3), (49, .iload_n 3, 1), (50, .lconst 0, 1), (51, .lastore, 1), (52, .iinc 3 1, 3), (55, .goto (-23), 3), (58, .aload_n 0, 1), (59, .iconst 0, 1), (60, .invokestatic 65, 3), (63, .ireturn, 1)] : List (Nat × Instr × Nat)), decode cX8_areAlike t.1 = .ok (t.2.1, t.2.2) := by decide +kernel
noncomputable def f_X8_areAlike_32 (s_o1 : OS) (s_o2 : OS) : (OS × Int32) → Option ((OS × Int32) ⊕ (OS)) := fun z => match z with | (s_t, b3) => (if 16 ≤ b3 then some (.inr s_t) else if inb b3 288 = true then bnd (oB s_t 4 (vp_updL (s_t.2.2.2 4) (b3 : Int32).toNatClampNeg 0)) (fun t8 => bnd (oB t8 5 (vp_updL (t8.2.2.2 5) (b3 : Int32).toNatClampNeg 0)) (fun t10 => bnd (b3 + 1 : Int32) (fun v12 => some (.inl ((t10, v12)))))) else none)
noncomputable def f_X8_areAlike (st : OS) (st1 : OS) (st2 : OS) : Option (Int32 × OS) := (if (st1.1 0) = (st2.1 0) then (if (st1.1 1) = (st2.1 1) then (f_X8_load st st1 st2).bind (fun x3 => (lpv (f_X8_areAlike_32 st1 st2) ((x3, 0))).bind (fun x14 => (f_X8_carryOn 20 x14 0).bind (fun x17 => match x17 with | (v19, t20) => if isb v19 = true then some ((v19, t20)) else none))) else some ((0, st))) else some ((0, st)))
set_option maxHeartbeats 4000000 in
set_option maxRecDepth 100000 in
theorem w_X8_areAlike_32 {p : Program} {l : Launch} {e : Env} {s : State} {m : MethodId} {args : Array Value} {below : List Frame} {meth : Method} {c : Code} {Q : State → Prop} {G : mG} {h : mM} {q : Nat → Nat} {q1 : Nat → Nat} {q2 : Nat → Nat} (hq : oinj LX8 q) (hq1 : oinj LX10 q1) (hq2 : oinj LX10 q2) (ha : oap [(LX8, q), (LX10, q1), (LX10, q2)]) (X : mX G p m c cX8_areAlike 4 s args RX8) (s_o1 : OS) (s_o2 : OS) : ∀ (z : OS × Int32) (r : OS), lpv (f_X8_areAlike_32 s_o1 s_o2) z = some r → ∀ (H : Heap) (locs : List Loc) (ls : Array Slot), mH G (oset LX8 G q z.1 (oset LX10 G q1 s_o1 (oset LX10 G q2 s_o2 h))) s.heap H locs → lv_has ls 4 [(0, .ref (q 10)), (3, .int z.2)] → (∀ (H : Heap) (locs : List Loc) (ls : Array Slot), mH G (oset LX8 G q r (oset LX10 G q1 s_o1 (oset LX10 G q2 s_o2 h))) s.heap H locs → lv_has ls 4 [(0, .ref (q 10))] → W p l e rm_X8_areAlike s m args below meth c H locs 0 0 Q (F0 m 58 ls [])) → W p l e rm_X8_areAlike s m args below meth c H locs 0 0 Q (F0 m 32 ls []) := by
  refine lpv_rec ?_
  intro z r x hF hx H locs ls hH hl K0
  obtain ⟨s_t, b3⟩ := z
  dsimp only [f_X8_areAlike_32] at hF
  try dsimp only at hH hl
  refine lv_iload_n X.x X.b (dk DX8_areAlike_0 18 rfl) rfl (lv_at hl 1 rfl) ?_
  refine lv_bipush (v := 16) X.x X.b (dk DX8_areAlike_0 19 rfl) (by decide) ?_
  refine lv_icmp_ge (tgt := 58) X.x X.b (dk DX8_areAlike_0 20 rfl) (by decide) (fun c6 => ?_) (fun c6 => ?_)
  · replace hF := if_t hF c6
    have hr9 := lp_r hF hx
    subst hr9
    exact K0 _ _ _ hH (lv_sub hl [0] rfl)
  · replace hF := if_f hF c6
    refine lv_aload_n X.x X.b (dk DX8_areAlike_0 21 rfl) rfl (lv_at hl 0 rfl) ?_
    refine og_getR (t := 1) OX8 X hq hH 4 (by decide) rfl kF_X8_20 (dk DX8_areAlike_0 22 rfl) ?_
    refine lv_iload_n X.x X.b (dk DX8_areAlike_0 23 rfl) rfl (lv_at hl 1 rfl) ?_
    refine lv_lconst (v := 0) X.x X.b (dk DX8_areAlike_0 24 rfl) (by decide) ?_
    obtain ⟨c7, hF⟩ := gd hF
    refine og_last X hq hH 4 (by decide) rfl (inb_in c7) (dk DX8_areAlike_0 25 rfl) (fun H locs hH => ?_)
    obtain ⟨t8, e9⟩ : ∃ y, y = oB s_t 4 (vp_updL (s_t.2.2.2 4) (b3 : Int32).toNatClampNeg 0) := ⟨_, rfl⟩
    rw [← e9] at hH
    replace hF := bnd_e hF e9
    refine lv_aload_n X.x X.b (dk DX8_areAlike_0 26 rfl) rfl (lv_at hl 0 rfl) ?_
    refine og_getR (t := 1) OX8 X hq hH 5 (by decide) rfl kF_X8_23 (dk DX8_areAlike_0 27 rfl) ?_
    refine lv_iload_n X.x X.b (dk DX8_areAlike_0 28 rfl) rfl (lv_at hl 1 rfl) ?_
    refine lv_lconst (v := 0) X.x X.b (dk DX8_areAlike_0 29 rfl) (by decide) ?_
    refine og_last X hq hH 5 (by decide) rfl (inb_in c7) (dk DX8_areAlike_0 30 rfl) (fun H locs hH => ?_)
    obtain ⟨t10, e11⟩ : ∃ y, y = oB t8 5 (vp_updL (t8.2.2.2 5) (b3 : Int32).toNatClampNeg 0) := ⟨_, rfl⟩
    rw [← e11] at hH
    replace hF := bnd_e hF e11
    obtain ⟨v12, e13⟩ : ∃ y : Int32, y = b3 + 1 := ⟨_, rfl⟩
    replace hF := bnd_e hF e13
    refine lv_iinc (v := v12) (lv' := [(3, .int v12), (0, .ref (q 10))]) X.x X.b (dk DX8_areAlike_0 31 rfl) hl (k := 1) rfl (by rw [e13]; rfl) (by decide) rfl (fun ls hl => ?_)
    replace hl : lv_has ls 4 [(0, .ref (q 10)), (3, .int v12)] := lv_sub hl [1, 0] rfl
    refine lv_goto (tgt := 32) X.x X.b (dk DX8_areAlike_0 32 rfl) (by decide) ?_
    exact (lp_l hF hx) _ _ _ hH (lv_sub hl [0, 1] rfl) K0
set_option maxHeartbeats 4000000 in
set_option maxRecDepth 100000 in
theorem c_X8_areAlike {l : Launch} {G : mG} {h : mM} {q : Nat → Nat} {q1 : Nat → Nat} {q2 : Nat → Nat} (hq : oinj LX8 q) (hq1 : oinj LX10 q1) (hq2 : oinj LX10 q2) (ha : oap [(LX8, q), (LX10, q1), (LX10, q2)]) {st : OS} {st1 : OS} {st2 : OS} {x : Int32 × OS} (hF : f_X8_areAlike st st1 st2 = some x) : cQ l G yX8_areAlike cX8_areAlike 4 (some FieldType.boolean) rm_X8_areAlike [.ref (q 10), .ref (q1 5), .ref (q2 5)] (oset LX8 G q st (oset LX10 G q1 st1 (oset LX10 G q2 st2 h))) (mQi G (fun r h1 => r = x.1 ∧ h1 = oset LX8 G q x.2 (oset LX10 G q1 st1 (oset LX10 G q2 st2 h)))) := by
  refine mp_of (by decide +kernel) (Nat.le_of_ble_eq_true rfl) ?_
  intro p e s m below meth c X hr hlk hH hname ls hl
  dsimp only [f_X8_areAlike] at hF
  replace hl : lv_has ls 4 [(0, .ref (q 10)), (1, .ref (q1 5)), (2, .ref (q2 5))] := hl
  refine lv_aload_n X.x X.b (dk DX8_areAlike_0 0 rfl) rfl (lv_at hl 1 rfl) ?_
  refine og_getIN OX10 X hq1 (mH_perm (l1 := [(LX8, q, st), (LX10, q1, st1), (LX10, q2, st2)]) (l2 := [(LX10, q1, st1), (LX8, q, st), (LX10, q2, st2)]) ha [1, 0, 2] [1, 0, 2] rfl rfl rfl hH) 0 (by decide) rfl kFN_X8_61 (dk DX8_areAlike_0 1 rfl) ?_
  refine lv_aload_n X.x X.b (dk DX8_areAlike_0 2 rfl) rfl (lv_at hl 2 rfl) ?_
  refine og_getIN OX10 X hq2 (mH_perm (l1 := [(LX8, q, st), (LX10, q1, st1), (LX10, q2, st2)]) (l2 := [(LX10, q2, st2), (LX8, q, st), (LX10, q1, st1)]) ha [2, 0, 1] [1, 2, 0] rfl rfl rfl hH) 0 (by decide) rfl kFN_X8_61 (dk DX8_areAlike_0 3 rfl) ?_
  refine lv_icmp_ne (tgt := 22) X.x X.b (dk DX8_areAlike_0 4 rfl) (by decide) (fun c1 => ?_) (fun c1 => ?_)
  · replace hF := if_f hF c1
    refine lv_iconst (v := 0) X.x X.b (dk DX8_areAlike_0 10 rfl) (by decide) ?_
    cases sm hF
    exact mr_zret X hr hlk hH rfl ⟨rfl, rfl⟩ (dk DX8_areAlike_0 11 rfl)
  · replace hF := if_t hF c1
    refine lv_aload_n X.x X.b (dk DX8_areAlike_0 5 rfl) rfl (lv_at hl 1 rfl) ?_
    refine og_getIN OX10 X hq1 (mH_perm (l1 := [(LX8, q, st), (LX10, q1, st1), (LX10, q2, st2)]) (l2 := [(LX10, q1, st1), (LX8, q, st), (LX10, q2, st2)]) ha [1, 0, 2] [1, 0, 2] rfl rfl rfl hH) 1 (by decide) rfl kFN_X8_62 (dk DX8_areAlike_0 6 rfl) ?_
    refine lv_aload_n X.x X.b (dk DX8_areAlike_0 7 rfl) rfl (lv_at hl 2 rfl) ?_
    refine og_getIN OX10 X hq2 (mH_perm (l1 := [(LX8, q, st), (LX10, q1, st1), (LX10, q2, st2)]) (l2 := [(LX10, q2, st2), (LX8, q, st), (LX10, q1, st1)]) ha [2, 0, 1] [1, 2, 0] rfl rfl rfl hH) 1 (by decide) rfl kFN_X8_62 (dk DX8_areAlike_0 8 rfl) ?_
    refine lv_icmp_eq (tgt := 24) X.x X.b (dk DX8_areAlike_0 9 rfl) (by decide) (fun c2 => ?_) (fun c2 => ?_)
    · replace hF := if_t hF c2
      refine lv_aload_n X.x X.b (dk DX8_areAlike_0 12 rfl) rfl (lv_at hl 0 rfl) ?_
      refine lv_aload_n X.x X.b (dk DX8_areAlike_0 13 rfl) rfl (lv_at hl 1 rfl) ?_
      refine lv_aload_n X.x X.b (dk DX8_areAlike_0 14 rfl) rfl (lv_at hl 2 rfl) ?_
      obtain ⟨x3, e4, hF⟩ := bd hF
      refine mr_cv0 hH ⟨rfl, rfl⟩ (mr_runV (As := [.ref (q1 5), .ref (q2 5)]) (rest := []) X hH (c_X8_load hq hq1 hq2 ha e4) ((oset_at hq (Nat.le_refl _) ohas_N).trans (congrArg some ocell_N)) OX8.1 kM_X8_39 kI_X8_load kS_X8_load kN_X8 kC_X8_load hd_X8_load ⟨Nat.le_of_ble_eq_true rfl, Nat.le_of_ble_eq_true rfl⟩ rfl hl.1 (Nat.le_of_ble_eq_true rfl) (dk DX8_areAlike_0 15 rfl) ⟨Nat.zero_le _, Nat.zero_le _⟩) (fun h1 H locs hp hH => ?_)
      rw [hp] at hH; clear hp
      refine lv_iconst (v := 0) X.x X.b (dk DX8_areAlike_0 16 rfl) (by decide) ?_
      refine lv_istore_n (lv' := [(3, .int 0), (0, .ref (q 10)), (1, .ref (q1 5)), (2, .ref (q2 5))]) X.x X.b (dk DX8_areAlike_0 17 rfl) rfl hl (by decide) rfl (fun ls hl => ?_)
      replace hl : lv_has ls 4 [(0, .ref (q 10)), (3, .int 0)] := lv_sub hl [1, 0] rfl
      obtain ⟨x14, e15, hF⟩ := bd hF
      replace hl : lv_has ls 4 [(0, .ref (q 10)), (3, .int 0)] := lv_sub hl [0, 1] rfl
      refine w_X8_areAlike_32 hq hq1 hq2 ha X st1 st2 _ _ e15 _ _ _ hH hl (fun H locs ls hH hl => ?_)
      refine lv_aload_n X.x X.b (dk DX8_areAlike_0 33 rfl) rfl (lv_at hl 0 rfl) ?_
      refine lv_iconst (v := 0) X.x X.b (dk DX8_areAlike_0 34 rfl) (by decide) ?_
      obtain ⟨x17, e18, hF⟩ := bd hF
      refine mr_ci0 hH ⟨rfl, rfl⟩ (mr_runS (As := [.ref (q 10), .int 0]) (rest := []) X hH (c_X8_carryOn hq 20 x14 0 _ e18) kM_X8_65 kT_X8_carryOn kN_X8 kC_X8_carryOn hd_X8_carryOn ⟨Nat.le_of_ble_eq_true rfl, Nat.le_of_ble_eq_true rfl⟩ rfl hl.1 (Nat.le_of_ble_eq_true rfl) (dk DX8_areAlike_0 35 rfl) ⟨Nat.zero_le _, Nat.zero_le _⟩) (fun r h1 H locs hp hH => ?_)
      obtain ⟨hr1, hr2⟩ := hp; rw [hr1]; rw [hr2] at hH; clear hr1 hr2
      obtain ⟨v19, t20⟩ := x17
      try dsimp only at hF hH ⊢
      obtain ⟨c21, hF⟩ := gd hF
      cases sm hF
      exact mr_zret X hr hlk hH (isb_nar c21) ⟨rfl, rfl⟩ (dk DX8_areAlike_0 36 rfl)
    · replace hF := if_f hF c2
      refine lv_iconst (v := 0) X.x X.b (dk DX8_areAlike_0 10 rfl) (by decide) ?_
      cases sm hF
      exact mr_zret X hr hlk hH rfl ⟨rfl, rfl⟩ (dk DX8_areAlike_0 11 rfl)
-- X9_walkOn
abbrev rm_X9_walkOn : Room := { frames := 2, cells := 0, slots := 0, locals := 43 }
theorem hd_X9_walkOn : mHd yX9_walkOn 1 := ⟨by decide +kernel, by decide +kernel, by decide +kernel⟩
theorem DX9_walkOn_0 : ∀ t ∈ ([(0, .iconst 0, 1), (1, .istore_n 2, 1), (2, .iload_n 2, 1), (3, .aload_n 1, 1), (4, .getfield 33, 3), (7, .if_icmp .ge 89, 3), (10, .iload_n 2, 1), (11, .bipush 64, 2), (13, .if_icmp .ge 83, 3), (16, .aload_n 1, 1), (17, .iload_n 2, 1), (18, .invokevirtual 53, 3), (21, .lstore_n 3, 1), (22, .lconst 0, 1), (23, .lstore 5, 2), (25, .iconst 0, 1), (26, .istore 7, 2), (28, .iload 7, 2), (30, .bipush 64, 2), (32, .if_icmp .ge 50, 3), (35, .lload_n 3, 1), (36, .lconst 0, 1), (37, .lcmp, 1), (38, .ifCond .eq 44, 3), (41, .lload_n 3, 1), (42, .invokestatic 57, 3), (45, .istore 8, 2), (47, .lload 5, 2), (49, .iload 8, 2), (51, .bipush 64, 2), (53, .if_icmp .ge 13, 3), (56, .aload_n 0, 1), (57, .getfield 11, 3), (60, .iload 8, 2), (62, .laload, 1), (63, .goto 4, 3), (66, .lconst 0, 1), (67, .ladd, 1), (68, .lstore 5, 2), (70, .lload_n 3, 1), (71, .lload_n 3, 1), (72, .lconst 1, 1), (73, .lsub, 1), (74, .land, 1), (75, .lstore_n 3, 1), (76, .iinc 7 1, 3), (79, .goto (-51), 3), (82, .aload_n 0, 1), (83, .getfield 20, 3), (86, .iload_n 2, 1), (87, .lload 5, 2), (89, .lastore, 1), (90, .iinc 2 1, 3), (93, .goto (-91), 3), (96, .aload_n 0, 1), (97, .getfield 20, 3), (100, .iconst 0, 1), (101, .aload_n 0, 1), (102, .getfield 11, 3), (105, .iconst 0, 1)] : List (Nat × Instr × Nat)), decode cX9_walkOn t.1 = .ok (t.2.1, t.2.2) := by decide +kernel
theorem DX9_walkOn_1 : ∀ t ∈ ([(106, .aload_n 1, 1), (107, .getfield 33, 3), (110, .bipush 64, 2), (112, .invokestatic 63, 3), (115, .invokestatic 47, 3), (118, .return_, 1)] : List (Nat × Instr × Nat)), decode cX9_walkOn t.1 = .ok (t.2.1, t.2.2) := by decide +kernel
noncomputable def f_X9_walkOn_28 (s_t : OS) (s_o1 : OS) (b2 : Int32) : (Int64 × Int64 × Int32) → Option ((Int64 × Int64 × Int32) ⊕ (Int64)) := fun z => match z with | (b3, b5, b7) => (if 64 ≤ b7 then some (.inr b5) else (if (lg_cmp b3 0) = 0 then some (.inr b5) else (f_J13_numberOfTrailingZeros_95d88 b3).bind (fun x8 => (if 64 ≤ x8 then bnd (b5 + 0 : Int64) (fun v12 => bnd (b3 &&& (b3 - 1) : Int64) (fun v14 => bnd (b7 + 1 : Int32) (fun v16 => some (.inl ((v14, v12, v16)))))) else if inb x8 64 = true then bnd (b5 + (s_t.2.2.2 0 (x8 : Int32).toNatClampNeg) : Int64) (fun v19 => bnd (b3 &&& (b3 - 1) : Int64) (fun v21 => bnd (b7 + 1 : Int32) (fun v23 => some (.inl ((v21, v19, v23)))))) else none))))
noncomputable def f_X9_walkOn_2 (s_o1 : OS) : (OS × Int32) → Option ((OS × Int32) ⊕ (OS)) := fun z => match z with | (s_t, b2) => (if (s_o1.1 0) ≤ b2 then some (.inr s_t) else (if 64 ≤ b2 then some (.inr s_t) else (f_X10_nearAt s_o1 b2).bind (fun x3 => (lpv (f_X9_walkOn_28 s_t s_o1 b2) ((x3, 0, 0))).bind (fun x25 => if inb b2 64 = true then bnd (oB s_t 2 (vp_updL (s_t.2.2.2 2) (b2 : Int32).toNatClampNeg x25)) (fun t29 => bnd (b2 + 1 : Int32) (fun v31 => some (.inl ((t29, v31))))) else none))))
noncomputable def f_X9_walkOn (st : OS) (st1 : OS) : Option (OS) := (lpv (f_X9_walkOn_2 st1) ((st, 0))).bind (fun x33 => (f_J9_min_7cf53 (st1.1 0) 64).bind (fun x36 => if okc 0 0 x36 64 64 = true then bnd (oB x33 0 (va_cpy (x33.2.2.2 2) (x33.2.2.2 0) (0 : Int32).toNatClampNeg (0 : Int32).toNatClampNeg (x36 : Int32).toNatClampNeg)) (fun t40 => some t40) else none))
set_option maxHeartbeats 4000000 in
set_option maxRecDepth 100000 in
theorem w_X9_walkOn_28 {p : Program} {l : Launch} {e : Env} {s : State} {m : MethodId} {args : Array Value} {below : List Frame} {meth : Method} {c : Code} {Q : State → Prop} {G : mG} {h : mM} {q : Nat → Nat} {q1 : Nat → Nat} (hq : oinj LX9 q) (hq1 : oinj LX10 q1) (ha : oap [(LX9, q), (LX10, q1)]) (X : mX G p m c cX9_walkOn 9 s args RX9) (s_t : OS) (s_o1 : OS) (b2 : Int32) : ∀ (z : Int64 × Int64 × Int32) (r : Int64), lpv (f_X9_walkOn_28 s_t s_o1 b2) z = some r → ∀ (H : Heap) (locs : List Loc) (ls : Array Slot), mH G (oset LX9 G q s_t (oset LX10 G q1 s_o1 h)) s.heap H locs → lv_has ls 9 [(0, .ref (q 7)), (1, .ref (q1 5)), (2, .int b2), (3, .long z.1), (5, .long z.2.1), (7, .int z.2.2)] → (∀ (H : Heap) (locs : List Loc) (ls : Array Slot), mH G (oset LX9 G q s_t (oset LX10 G q1 s_o1 h)) s.heap H locs → lv_has ls 9 [(0, .ref (q 7)), (1, .ref (q1 5)), (2, .int b2), (5, .long r)] → W p l e rm_X9_walkOn s m args below meth c H locs 0 0 Q (F0 m 82 ls [])) → W p l e rm_X9_walkOn s m args below meth c H locs 0 0 Q (F0 m 28 ls []) := by
  refine lpv_rec ?_
  intro z r x hF hx H locs ls hH hl K0
  obtain ⟨b3, b5, b7⟩ := z
  dsimp only [f_X9_walkOn_28] at hF
  try dsimp only at hH hl
  refine lv_iload X.x X.b (dk DX9_walkOn_0 17 rfl) (lv_at hl 5 rfl) ?_
  refine lv_bipush (v := 64) X.x X.b (dk DX9_walkOn_0 18 rfl) (by decide) ?_
  refine lv_icmp_ge (tgt := 82) X.x X.b (dk DX9_walkOn_0 19 rfl) (by decide) (fun c6 => ?_) (fun c6 => ?_)
  · replace hF := if_t hF c6
    have hr9 := lp_r hF hx
    subst hr9
    exact K0 _ _ _ hH (lv_sub hl [0, 1, 2, 4] rfl)
  · replace hF := if_f hF c6
    refine lv_lload_n X.x X.b (dk DX9_walkOn_0 20 rfl) rfl (lv_at hl 3 rfl) ?_
    refine lv_lconst (v := 0) X.x X.b (dk DX9_walkOn_0 21 rfl) (by decide) ?_
    refine W.lcmp X.x X.b (dk DX9_walkOn_0 22 rfl) ?_
    refine lv_if_eq (tgt := 82) X.x X.b (dk DX9_walkOn_0 23 rfl) (by decide) (fun c7 => ?_) (fun c7 => ?_)
    · replace hF := if_t hF c7
      have hr9 := lp_r hF hx
      subst hr9
      exact K0 _ _ _ hH (lv_sub hl [0, 1, 2, 4] rfl)
    · replace hF := if_f hF c7
      refine lv_lload_n X.x X.b (dk DX9_walkOn_0 24 rfl) rfl (lv_at hl 3 rfl) ?_
      obtain ⟨x8, e9, hF⟩ := bd hF
      refine mr_ci0 hH ⟨rfl, rfl⟩ (mr_runS (As := [.long b3]) (rest := []) X hH (c_J13_numberOfTrailingZeros_95d88 e9) kM_X9_57 kT_J13_numberOfTrailingZeros_95d88 kN_J13 kC_J13_numberOfTrailingZeros_95d88 hd_J13_numberOfTrailingZeros_95d88 ⟨Nat.le_of_ble_eq_true rfl, Nat.le_of_ble_eq_true rfl⟩ rfl hl.1 (Nat.le_of_ble_eq_true rfl) (dk DX9_walkOn_0 25 rfl) ⟨Nat.zero_le _, Nat.zero_le _⟩) (fun r h1 H locs hp hH => ?_)
      obtain ⟨hr1, hr2⟩ := hp; rw [hr1]; rw [hr2] at hH; clear hr1 hr2
      refine lv_istore (lv' := [(8, .int x8), (0, .ref (q 7)), (1, .ref (q1 5)), (2, .int b2), (3, .long b3), (5, .long b5), (7, .int b7)]) X.x X.b (dk DX9_walkOn_0 26 rfl) hl (by decide) rfl (fun ls hl => ?_)
      replace hl : lv_has ls 9 [(0, .ref (q 7)), (1, .ref (q1 5)), (2, .int b2), (3, .long b3), (5, .long b5), (7, .int b7), (8, .int x8)] := lv_sub hl [1, 2, 3, 4, 5, 6, 0] rfl
      refine lv_lload X.x X.b (dk DX9_walkOn_0 27 rfl) (lv_at hl 4 rfl) ?_
      refine lv_iload X.x X.b (dk DX9_walkOn_0 28 rfl) (lv_at hl 6 rfl) ?_
      refine lv_bipush (v := 64) X.x X.b (dk DX9_walkOn_0 29 rfl) (by decide) ?_
      refine lv_icmp_ge (tgt := 66) X.x X.b (dk DX9_walkOn_0 30 rfl) (by decide) (fun c11 => ?_) (fun c11 => ?_)
      · replace hF := if_t hF c11
        refine lv_lconst (v := 0) X.x X.b (dk DX9_walkOn_0 36 rfl) (by decide) ?_
        refine lv_ladd X.x X.b (dk DX9_walkOn_0 37 rfl) ?_
        refine lv_topl (fun v12 e13 => ?_)
        replace hF := bnd_e hF e13
        refine lv_lstore (lv' := [(5, .long v12), (0, .ref (q 7)), (1, .ref (q1 5)), (2, .int b2), (3, .long b3), (7, .int b7), (8, .int x8)]) X.x X.b (dk DX9_walkOn_0 38 rfl) hl (by decide) rfl (fun ls hl => ?_)
        replace hl : lv_has ls 9 [(0, .ref (q 7)), (1, .ref (q1 5)), (2, .int b2), (3, .long b3), (5, .long v12), (7, .int b7)] := lv_sub hl [1, 2, 3, 4, 0, 5] rfl
        refine lv_lload_n X.x X.b (dk DX9_walkOn_0 39 rfl) rfl (lv_at hl 3 rfl) ?_
        refine lv_lload_n X.x X.b (dk DX9_walkOn_0 40 rfl) rfl (lv_at hl 3 rfl) ?_
        refine lv_lconst (v := 1) X.x X.b (dk DX9_walkOn_0 41 rfl) (by decide) ?_
        refine lv_lsub X.x X.b (dk DX9_walkOn_0 42 rfl) ?_
        refine lv_land X.x X.b (dk DX9_walkOn_0 43 rfl) ?_
        refine lv_topl (fun v14 e15 => ?_)
        replace hF := bnd_e hF e15
        refine lv_lstore_n (lv' := [(3, .long v14), (0, .ref (q 7)), (1, .ref (q1 5)), (2, .int b2), (5, .long v12), (7, .int b7)]) X.x X.b (dk DX9_walkOn_0 44 rfl) rfl hl (by decide) rfl (fun ls hl => ?_)
        replace hl : lv_has ls 9 [(0, .ref (q 7)), (1, .ref (q1 5)), (2, .int b2), (3, .long v14), (5, .long v12), (7, .int b7)] := lv_sub hl [1, 2, 3, 0, 4, 5] rfl
        obtain ⟨v16, e17⟩ : ∃ y : Int32, y = b7 + 1 := ⟨_, rfl⟩
        replace hF := bnd_e hF e17
        refine lv_iinc (v := v16) (lv' := [(7, .int v16), (0, .ref (q 7)), (1, .ref (q1 5)), (2, .int b2), (3, .long v14), (5, .long v12)]) X.x X.b (dk DX9_walkOn_0 45 rfl) hl (k := 5) rfl (by rw [e17]; rfl) (by decide) rfl (fun ls hl => ?_)
        replace hl : lv_has ls 9 [(0, .ref (q 7)), (1, .ref (q1 5)), (2, .int b2), (3, .long v14), (5, .long v12), (7, .int v16)] := lv_sub hl [1, 2, 3, 4, 5, 0] rfl
        refine lv_goto (tgt := 28) X.x X.b (dk DX9_walkOn_0 46 rfl) (by decide) ?_
        exact (lp_l hF hx) _ _ _ hH (lv_sub hl [0, 1, 2, 3, 4, 5] rfl) K0
      · replace hF := if_f hF c11
        refine lv_aload_n X.x X.b (dk DX9_walkOn_0 31 rfl) rfl (lv_at hl 0 rfl) ?_
        refine og_getR (t := 1) OX9 X hq hH 0 (by decide) rfl kF_X9_11 (dk DX9_walkOn_0 32 rfl) ?_
        refine lv_iload X.x X.b (dk DX9_walkOn_0 33 rfl) (lv_at hl 6 rfl) ?_
        obtain ⟨c18, hF⟩ := gd hF
        refine og_lald X hq hH 0 (by decide) rfl (inb_in c18) (dk DX9_walkOn_0 34 rfl) ?_
        refine lv_goto (tgt := 67) X.x X.b (dk DX9_walkOn_0 35 rfl) (by decide) ?_
        refine lv_ladd X.x X.b (dk DX9_walkOn_0 37 rfl) ?_
        refine lv_topl (fun v19 e20 => ?_)
        replace hF := bnd_e hF e20
        refine lv_lstore (lv' := [(5, .long v19), (0, .ref (q 7)), (1, .ref (q1 5)), (2, .int b2), (3, .long b3), (7, .int b7), (8, .int x8)]) X.x X.b (dk DX9_walkOn_0 38 rfl) hl (by decide) rfl (fun ls hl => ?_)
        replace hl : lv_has ls 9 [(0, .ref (q 7)), (1, .ref (q1 5)), (2, .int b2), (3, .long b3), (5, .long v19), (7, .int b7)] := lv_sub hl [1, 2, 3, 4, 0, 5] rfl
        refine lv_lload_n X.x X.b (dk DX9_walkOn_0 39 rfl) rfl (lv_at hl 3 rfl) ?_
        refine lv_lload_n X.x X.b (dk DX9_walkOn_0 40 rfl) rfl (lv_at hl 3 rfl) ?_
        refine lv_lconst (v := 1) X.x X.b (dk DX9_walkOn_0 41 rfl) (by decide) ?_
        refine lv_lsub X.x X.b (dk DX9_walkOn_0 42 rfl) ?_
        refine lv_land X.x X.b (dk DX9_walkOn_0 43 rfl) ?_
        refine lv_topl (fun v21 e22 => ?_)
        replace hF := bnd_e hF e22
        refine lv_lstore_n (lv' := [(3, .long v21), (0, .ref (q 7)), (1, .ref (q1 5)), (2, .int b2), (5, .long v19), (7, .int b7)]) X.x X.b (dk DX9_walkOn_0 44 rfl) rfl hl (by decide) rfl (fun ls hl => ?_)
        replace hl : lv_has ls 9 [(0, .ref (q 7)), (1, .ref (q1 5)), (2, .int b2), (3, .long v21), (5, .long v19), (7, .int b7)] := lv_sub hl [1, 2, 3, 0, 4, 5] rfl
        obtain ⟨v23, e24⟩ : ∃ y : Int32, y = b7 + 1 := ⟨_, rfl⟩
        replace hF := bnd_e hF e24
        refine lv_iinc (v := v23) (lv' := [(7, .int v23), (0, .ref (q 7)), (1, .ref (q1 5)), (2, .int b2), (3, .long v21), (5, .long v19)]) X.x X.b (dk DX9_walkOn_0 45 rfl) hl (k := 5) rfl (by rw [e24]; rfl) (by decide) rfl (fun ls hl => ?_)
        replace hl : lv_has ls 9 [(0, .ref (q 7)), (1, .ref (q1 5)), (2, .int b2), (3, .long v21), (5, .long v19), (7, .int v23)] := lv_sub hl [1, 2, 3, 4, 5, 0] rfl
        refine lv_goto (tgt := 28) X.x X.b (dk DX9_walkOn_0 46 rfl) (by decide) ?_
        exact (lp_l hF hx) _ _ _ hH (lv_sub hl [0, 1, 2, 3, 4, 5] rfl) K0
set_option maxHeartbeats 4000000 in
set_option maxRecDepth 100000 in
theorem w_X9_walkOn_2 {p : Program} {l : Launch} {e : Env} {s : State} {m : MethodId} {args : Array Value} {below : List Frame} {meth : Method} {c : Code} {Q : State → Prop} {G : mG} {h : mM} {q : Nat → Nat} {q1 : Nat → Nat} (hq : oinj LX9 q) (hq1 : oinj LX10 q1) (ha : oap [(LX9, q), (LX10, q1)]) (X : mX G p m c cX9_walkOn 9 s args RX9) (s_o1 : OS) : ∀ (z : OS × Int32) (r : OS), lpv (f_X9_walkOn_2 s_o1) z = some r → ∀ (H : Heap) (locs : List Loc) (ls : Array Slot), mH G (oset LX9 G q z.1 (oset LX10 G q1 s_o1 h)) s.heap H locs → lv_has ls 9 [(0, .ref (q 7)), (1, .ref (q1 5)), (2, .int z.2)] → (∀ (H : Heap) (locs : List Loc) (ls : Array Slot), mH G (oset LX9 G q r (oset LX10 G q1 s_o1 h)) s.heap H locs → lv_has ls 9 [(0, .ref (q 7)), (1, .ref (q1 5))] → W p l e rm_X9_walkOn s m args below meth c H locs 0 0 Q (F0 m 96 ls [])) → W p l e rm_X9_walkOn s m args below meth c H locs 0 0 Q (F0 m 2 ls []) := by
  refine lpv_rec ?_
  intro z r x hF hx H locs ls hH hl K0
  obtain ⟨s_t, b2⟩ := z
  dsimp only [f_X9_walkOn_2] at hF
  try dsimp only at hH hl
  refine lv_iload_n X.x X.b (dk DX9_walkOn_0 2 rfl) rfl (lv_at hl 2 rfl) ?_
  refine lv_aload_n X.x X.b (dk DX9_walkOn_0 3 rfl) rfl (lv_at hl 1 rfl) ?_
  refine og_getIN OX10 X hq1 (mH_perm (l1 := [(LX9, q, s_t), (LX10, q1, s_o1)]) (l2 := [(LX10, q1, s_o1), (LX9, q, s_t)]) ha [1, 0] [1, 0] rfl rfl rfl hH) 0 (by decide) rfl kFN_X9_33 (dk DX9_walkOn_0 4 rfl) ?_
  refine lv_icmp_ge (tgt := 96) X.x X.b (dk DX9_walkOn_0 5 rfl) (by decide) (fun c1 => ?_) (fun c1 => ?_)
  · replace hF := if_t hF c1
    have hr9 := lp_r hF hx
    subst hr9
    exact K0 _ _ _ hH (lv_sub hl [0, 1] rfl)
  · replace hF := if_f hF c1
    refine lv_iload_n X.x X.b (dk DX9_walkOn_0 6 rfl) rfl (lv_at hl 2 rfl) ?_
    refine lv_bipush (v := 64) X.x X.b (dk DX9_walkOn_0 7 rfl) (by decide) ?_
    refine lv_icmp_ge (tgt := 96) X.x X.b (dk DX9_walkOn_0 8 rfl) (by decide) (fun c2 => ?_) (fun c2 => ?_)
    · replace hF := if_t hF c2
      have hr9 := lp_r hF hx
      subst hr9
      exact K0 _ _ _ hH (lv_sub hl [0, 1] rfl)
    · replace hF := if_f hF c2
      refine lv_aload_n X.x X.b (dk DX9_walkOn_0 9 rfl) rfl (lv_at hl 1 rfl) ?_
      refine lv_iload_n X.x X.b (dk DX9_walkOn_0 10 rfl) rfl (lv_at hl 2 rfl) ?_
      obtain ⟨x3, e4, hF⟩ := bd hF
      refine mr_cl0 (mH_perm (l1 := [(LX9, q, s_t), (LX10, q1, s_o1)]) (l2 := [(LX10, q1, s_o1), (LX9, q, s_t)]) ha [1, 0] [1, 0] rfl rfl rfl hH) ⟨rfl, rfl⟩ (mr_runV (As := [.int b2]) (rest := []) X (mH_perm (l1 := [(LX9, q, s_t), (LX10, q1, s_o1)]) (l2 := [(LX10, q1, s_o1), (LX9, q, s_t)]) ha [1, 0] [1, 0] rfl rfl rfl hH) (c_X10_nearAt hq1 e4) ((oset_at hq1 (Nat.le_refl _) ohas_N).trans (congrArg some ocell_N)) OX10.1 kM_X9_53 kI_X10_nearAt kS_X10_nearAt kN_X10 kC_X10_nearAt hd_X10_nearAt ⟨Nat.le_of_ble_eq_true rfl, Nat.le_of_ble_eq_true rfl⟩ rfl hl.1 (Nat.le_of_ble_eq_true rfl) (dk DX9_walkOn_0 11 rfl) ⟨Nat.zero_le _, Nat.zero_le _⟩) (fun r h1 H locs hp hH => ?_)
      obtain ⟨hr1, hr2⟩ := hp; rw [hr1]; rw [hr2] at hH; clear hr1 hr2
      replace hH : mH G (oset LX9 G q s_t (oset LX10 G q1 s_o1 h)) s.heap H locs := mH_unperm (l1 := [(LX9, q, s_t), (LX10, q1, s_o1)]) (l2 := [(LX10, q1, s_o1), (LX9, q, s_t)]) ha [1, 0] [1, 0] rfl rfl rfl hH
      refine lv_lstore_n (lv' := [(3, .long x3), (0, .ref (q 7)), (1, .ref (q1 5)), (2, .int b2)]) X.x X.b (dk DX9_walkOn_0 12 rfl) rfl hl (by decide) rfl (fun ls hl => ?_)
      replace hl : lv_has ls 9 [(0, .ref (q 7)), (1, .ref (q1 5)), (2, .int b2), (3, .long x3)] := lv_sub hl [1, 2, 3, 0] rfl
      refine lv_lconst (v := 0) X.x X.b (dk DX9_walkOn_0 13 rfl) (by decide) ?_
      refine lv_lstore (lv' := [(5, .long 0), (0, .ref (q 7)), (1, .ref (q1 5)), (2, .int b2), (3, .long x3)]) X.x X.b (dk DX9_walkOn_0 14 rfl) hl (by decide) rfl (fun ls hl => ?_)
      replace hl : lv_has ls 9 [(0, .ref (q 7)), (1, .ref (q1 5)), (2, .int b2), (3, .long x3), (5, .long 0)] := lv_sub hl [1, 2, 3, 4, 0] rfl
      refine lv_iconst (v := 0) X.x X.b (dk DX9_walkOn_0 15 rfl) (by decide) ?_
      refine lv_istore (lv' := [(7, .int 0), (0, .ref (q 7)), (1, .ref (q1 5)), (2, .int b2), (3, .long x3), (5, .long 0)]) X.x X.b (dk DX9_walkOn_0 16 rfl) hl (by decide) rfl (fun ls hl => ?_)
      replace hl : lv_has ls 9 [(0, .ref (q 7)), (1, .ref (q1 5)), (2, .int b2), (3, .long x3), (5, .long 0), (7, .int 0)] := lv_sub hl [1, 2, 3, 4, 5, 0] rfl
      obtain ⟨x25, e26, hF⟩ := bd hF
      replace hl : lv_has ls 9 [(0, .ref (q 7)), (1, .ref (q1 5)), (2, .int b2), (3, .long x3), (5, .long 0), (7, .int 0)] := lv_sub hl [0, 1, 2, 3, 4, 5] rfl
      refine w_X9_walkOn_28 hq hq1 ha X s_t s_o1 b2 _ _ e26 _ _ _ hH hl (fun H locs ls hH hl => ?_)
      refine lv_aload_n X.x X.b (dk DX9_walkOn_0 47 rfl) rfl (lv_at hl 0 rfl) ?_
      refine og_getR (t := 1) OX9 X hq hH 2 (by decide) rfl kF_X9_20 (dk DX9_walkOn_0 48 rfl) ?_
      refine lv_iload_n X.x X.b (dk DX9_walkOn_0 49 rfl) rfl (lv_at hl 2 rfl) ?_
      refine lv_lload X.x X.b (dk DX9_walkOn_0 50 rfl) (lv_at hl 3 rfl) ?_
      obtain ⟨c28, hF⟩ := gd hF
      refine og_last X hq hH 2 (by decide) rfl (inb_in c28) (dk DX9_walkOn_0 51 rfl) (fun H locs hH => ?_)
      obtain ⟨t29, e30⟩ : ∃ y, y = oB s_t 2 (vp_updL (s_t.2.2.2 2) (b2 : Int32).toNatClampNeg x25) := ⟨_, rfl⟩
      rw [← e30] at hH
      replace hF := bnd_e hF e30
      obtain ⟨v31, e32⟩ : ∃ y : Int32, y = b2 + 1 := ⟨_, rfl⟩
      replace hF := bnd_e hF e32
      refine lv_iinc (v := v31) (lv' := [(2, .int v31), (0, .ref (q 7)), (1, .ref (q1 5)), (5, .long x25)]) X.x X.b (dk DX9_walkOn_0 52 rfl) hl (k := 2) rfl (by rw [e32]; rfl) (by decide) rfl (fun ls hl => ?_)
      replace hl : lv_has ls 9 [(0, .ref (q 7)), (1, .ref (q1 5)), (2, .int v31)] := lv_sub hl [1, 2, 0] rfl
      refine lv_goto (tgt := 2) X.x X.b (dk DX9_walkOn_0 53 rfl) (by decide) ?_
      exact (lp_l hF hx) _ _ _ hH (lv_sub hl [0, 1, 2] rfl) K0
set_option maxHeartbeats 4000000 in
set_option maxRecDepth 100000 in
theorem c_X9_walkOn {l : Launch} {G : mG} {h : mM} {q : Nat → Nat} {q1 : Nat → Nat} (hq : oinj LX9 q) (hq1 : oinj LX10 q1) (ha : oap [(LX9, q), (LX10, q1)]) {st : OS} {st1 : OS} {x : OS} (hF : f_X9_walkOn st st1 = some x) : cQ l G yX9_walkOn cX9_walkOn 9 none rm_X9_walkOn [.ref (q 7), .ref (q1 5)] (oset LX9 G q st (oset LX10 G q1 st1 h)) (mQv G (fun h1 => h1 = oset LX9 G q x (oset LX10 G q1 st1 h))) := by
  refine mp_of (by decide +kernel) (Nat.le_of_ble_eq_true rfl) ?_
  intro p e s m below meth c X hr hlk hH hname ls hl
  dsimp only [f_X9_walkOn] at hF
  replace hl : lv_has ls 9 [(0, .ref (q 7)), (1, .ref (q1 5))] := hl
  refine lv_iconst (v := 0) X.x X.b (dk DX9_walkOn_0 0 rfl) (by decide) ?_
  refine lv_istore_n (lv' := [(2, .int 0), (0, .ref (q 7)), (1, .ref (q1 5))]) X.x X.b (dk DX9_walkOn_0 1 rfl) rfl hl (by decide) rfl (fun ls hl => ?_)
  replace hl : lv_has ls 9 [(0, .ref (q 7)), (1, .ref (q1 5)), (2, .int 0)] := lv_sub hl [1, 2, 0] rfl
  obtain ⟨x33, e34, hF⟩ := bd hF
  replace hl : lv_has ls 9 [(0, .ref (q 7)), (1, .ref (q1 5)), (2, .int 0)] := lv_sub hl [0, 1, 2] rfl
  refine w_X9_walkOn_2 hq hq1 ha X st1 _ _ e34 _ _ _ hH hl (fun H locs ls hH hl => ?_)
  refine lv_aload_n X.x X.b (dk DX9_walkOn_0 54 rfl) rfl (lv_at hl 0 rfl) ?_
  refine og_getR (t := 1) OX9 X hq hH 2 (by decide) rfl kF_X9_20 (dk DX9_walkOn_0 55 rfl) ?_
  refine lv_iconst (v := 0) X.x X.b (dk DX9_walkOn_0 56 rfl) (by decide) ?_
  refine lv_aload_n X.x X.b (dk DX9_walkOn_0 57 rfl) rfl (lv_at hl 0 rfl) ?_
  refine og_getR (t := 1) OX9 X hq hH 0 (by decide) rfl kF_X9_11 (dk DX9_walkOn_0 58 rfl) ?_
  refine lv_iconst (v := 0) X.x X.b (dk DX9_walkOn_0 59 rfl) (by decide) ?_
  refine lv_aload_n X.x X.b (dk DX9_walkOn_1 0 rfl) rfl (lv_at hl 1 rfl) ?_
  refine og_getIN OX10 X hq1 (mH_perm (l1 := [(LX9, q, x33), (LX10, q1, st1)]) (l2 := [(LX10, q1, st1), (LX9, q, x33)]) ha [1, 0] [1, 0] rfl rfl rfl hH) 0 (by decide) rfl kFN_X9_33 (dk DX9_walkOn_1 1 rfl) ?_
  refine lv_bipush (v := 64) X.x X.b (dk DX9_walkOn_1 2 rfl) (by decide) ?_
  obtain ⟨x36, e37, hF⟩ := bd hF
  refine mr_ci0 hH ⟨rfl, rfl⟩ (mr_runS (As := [.int (st1.1 0), .int 64]) (rest := [.int 0, .ref (q 0), .int 0, .ref (q 2)]) X hH (c_J9_min_7cf53 e37) kM_X9_63 kT_J9_min_7cf53 kN_J9 kC_J9_min_7cf53 hd_J9_min_7cf53 ⟨Nat.le_of_ble_eq_true rfl, Nat.le_of_ble_eq_true rfl⟩ rfl hl.1 (Nat.le_of_ble_eq_true rfl) (dk DX9_walkOn_1 3 rfl) ⟨Nat.zero_le _, Nat.zero_le _⟩) (fun r h1 H locs hp hH => ?_)
  obtain ⟨hr1, hr2⟩ := hp; rw [hr1]; rw [hr2] at hH; clear hr1 hr2
  obtain ⟨c39, hF⟩ := gd hF
  refine og_copyl X hl.1 hq hH 0 (by decide) rfl ((oset_at hq (k := 2) (by decide) rfl).trans (congrArg some (oc_k (t := 3) (n := 64) (by decide) rfl))) c39 kM_X9_47 kV_rraycopyName kT_rraycopyName kN_J10 (Nat.le_of_ble_eq_true rfl) (Nat.le_of_ble_eq_true rfl) (dk DX9_walkOn_1 4 rfl) (fun H locs hH => ?_)
  obtain ⟨t40, e41⟩ : ∃ y, y = oB x33 0 (va_cpy (x33.2.2.2 2) (x33.2.2.2 0) (0 : Int32).toNatClampNeg (0 : Int32).toNatClampNeg (x36 : Int32).toNatClampNeg) := ⟨_, rfl⟩
  rw [← e41] at hH
  replace hF := bnd_e hF e41
  cases sm hF
  exact mr_vret X hr hlk hH rfl (dk DX9_walkOn_1 5 rfl)
-- X9_walksFrom
abbrev rm_X9_walksFrom : Room := { frames := 3, cells := 0, slots := 0, locals := 71 }
theorem hd_X9_walksFrom : mHd yX9_walksFrom 3 := ⟨by decide +kernel, by decide +kernel, by decide +kernel⟩
theorem DX9_walksFrom_0 : ∀ t ∈ ([(0, .iconst 0, 1), (1, .istore 4, 2), (3, .iload 4, 2), (5, .bipush 64, 2), (7, .if_icmp .ge 27, 3), (10, .aload_n 0, 1), (11, .getfield 11, 3), (14, .iload 4, 2), (16, .iload 4, 2), (18, .iload_n 2, 1), (19, .if_icmp .ne 7, 3), (22, .lconst 1, 1), (23, .goto 4, 3), (26, .lconst 0, 1), (27, .lastore, 1), (28, .iinc 4 1, 3), (31, .goto (-28), 3), (34, .iconst 0, 1), (35, .istore 4, 2), (37, .iload 4, 2), (39, .iload_n 3, 1), (40, .iconst 2, 1), (41, .idiv, 1), (42, .if_icmp .ge 14, 3), (45, .aload_n 0, 1), (46, .aload_n 1, 1), (47, .invokevirtual 43, 3), (50, .iinc 4 1, 3), (53, .goto (-16), 3), (56, .aload_n 0, 1), (57, .getfield 11, 3), (60, .iconst 0, 1), (61, .aload_n 0, 1), (62, .getfield 17, 3), (65, .iconst 0, 1), (66, .bipush 64, 2), (68, .invokestatic 47, 3), (71, .iload_n 3, 1), (72, .iconst 2, 1), (73, .irem, 1), (74, .iconst 1, 1), (75, .if_icmp .ne 8, 3), (78, .aload_n 0, 1), (79, .aload_n 1, 1), (80, .invokevirtual 43, 3), (83, .lconst 0, 1), (84, .lstore 4, 2), (86, .iconst 0, 1), (87, .istore 6, 2), (89, .iload 6, 2), (91, .bipush 64, 2), (93, .if_icmp .ge 29, 3), (96, .lload 4, 2), (98, .aload_n 0, 1), (99, .getfield 17, 3), (102, .iload 6, 2), (104, .laload, 1), (105, .aload_n 0, 1), (106, .getfield 11, 3), (109, .iload 6, 2)] : List (Nat × Instr × Nat)), decode cX9_walksFrom t.1 = .ok (t.2.1, t.2.2) := by decide +kernel
theorem DX9_walksFrom_1 : ∀ t ∈ ([(111, .laload, 1), (112, .lmul, 1), (113, .ladd, 1), (114, .lstore 4, 2), (116, .iinc 6 1, 3), (119, .goto (-30), 3), (122, .lload 4, 2), (124, .lreturn, 1)] : List (Nat × Instr × Nat)), decode cX9_walksFrom t.1 = .ok (t.2.1, t.2.2) := by decide +kernel
noncomputable def f_X9_walksFrom_3 (s_o1 : OS) (b2 : Int32) (b3 : Int32) : (OS × Int32) → Option ((OS × Int32) ⊕ (OS)) := fun z => match z with | (s_t, b4) => (if 64 ≤ b4 then some (.inr s_t) else (if b4 = b2 then if inb b4 64 = true then bnd (oB s_t 0 (vp_updL (s_t.2.2.2 0) (b4 : Int32).toNatClampNeg 1)) (fun t9 => bnd (b4 + 1 : Int32) (fun v11 => some (.inl ((t9, v11))))) else none else if inb b4 64 = true then bnd (oB s_t 0 (vp_updL (s_t.2.2.2 0) (b4 : Int32).toNatClampNeg 0)) (fun t4 => bnd (b4 + 1 : Int32) (fun v6 => some (.inl ((t4, v6))))) else none))
noncomputable def f_X9_walksFrom_37 (s_o1 : OS) (b3 : Int32) : (OS × Int32) → Option ((OS × Int32) ⊕ (OS)) := fun z => match z with | (s_t, b4) => (if (b3 / 2) ≤ b4 then some (.inr s_t) else (f_X9_walkOn s_t s_o1).bind (fun x17 => bnd (b4 + 1 : Int32) (fun v20 => some (.inl ((x17, v20))))))
noncomputable def f_X9_walksFrom_89 (s_t : OS) (s_o1 : OS) : (Int64 × Int32) → Option ((Int64 × Int32) ⊕ (Int64)) := fun z => match z with | (b4, b6) => (if 64 ≤ b6 then some (.inr b4) else if inb b6 64 = true then bnd (b4 + ((s_t.2.2.2 1 (b6 : Int32).toNatClampNeg) * (s_t.2.2.2 0 (b6 : Int32).toNatClampNeg)) : Int64) (fun v31 => bnd (b6 + 1 : Int32) (fun v33 => some (.inl ((v31, v33))))) else none)
noncomputable def f_X9_walksFrom (st : OS) (st1 : OS) (a1 : Int32) (a2 : Int32) : Option (Int64 × OS) := (lpv (f_X9_walksFrom_3 st1 a1 a2) ((st, 0))).bind (fun x13 => (lpv (f_X9_walksFrom_37 st1 a2) ((x13, 0))).bind (fun x22 => if okc 0 0 64 64 64 = true then bnd (oB x22 1 (va_cpy (x22.2.2.2 0) (x22.2.2.2 1) (0 : Int32).toNatClampNeg (0 : Int32).toNatClampNeg (64 : Int32).toNatClampNeg)) (fun t26 => (if (a2 - a2 / 2 * 2) = 1 then (f_X9_walkOn t26 st1).bind (fun x38 => (lpv (f_X9_walksFrom_89 x38 st1) ((0, 0))).bind (fun x41 => some ((x41, x38)))) else (lpv (f_X9_walksFrom_89 t26 st1) ((0, 0))).bind (fun x35 => some ((x35, t26))))) else none))
set_option maxHeartbeats 4000000 in
set_option maxRecDepth 100000 in
theorem w_X9_walksFrom_3 {p : Program} {l : Launch} {e : Env} {s : State} {m : MethodId} {args : Array Value} {below : List Frame} {meth : Method} {c : Code} {Q : State → Prop} {G : mG} {h : mM} {q : Nat → Nat} {q1 : Nat → Nat} (hq : oinj LX9 q) (hq1 : oinj LX10 q1) (ha : oap [(LX9, q), (LX10, q1)]) (X : mX G p m c cX9_walksFrom 7 s args RX9) (s_o1 : OS) (b2 : Int32) (b3 : Int32) : ∀ (z : OS × Int32) (r : OS), lpv (f_X9_walksFrom_3 s_o1 b2 b3) z = some r → ∀ (H : Heap) (locs : List Loc) (ls : Array Slot), mH G (oset LX9 G q z.1 (oset LX10 G q1 s_o1 h)) s.heap H locs → lv_has ls 7 [(0, .ref (q 7)), (1, .ref (q1 5)), (2, .int b2), (3, .int b3), (4, .int z.2)] → (∀ (H : Heap) (locs : List Loc) (ls : Array Slot), mH G (oset LX9 G q r (oset LX10 G q1 s_o1 h)) s.heap H locs → lv_has ls 7 [(0, .ref (q 7)), (1, .ref (q1 5)), (3, .int b3)] → W p l e rm_X9_walksFrom s m args below meth c H locs 0 0 Q (F0 m 34 ls [])) → W p l e rm_X9_walksFrom s m args below meth c H locs 0 0 Q (F0 m 3 ls []) := by
  refine lpv_rec ?_
  intro z r x hF hx H locs ls hH hl K0
  obtain ⟨s_t, b4⟩ := z
  dsimp only [f_X9_walksFrom_3] at hF
  try dsimp only at hH hl
  refine lv_iload X.x X.b (dk DX9_walksFrom_0 2 rfl) (lv_at hl 4 rfl) ?_
  refine lv_bipush (v := 64) X.x X.b (dk DX9_walksFrom_0 3 rfl) (by decide) ?_
  refine lv_icmp_ge (tgt := 34) X.x X.b (dk DX9_walksFrom_0 4 rfl) (by decide) (fun c1 => ?_) (fun c1 => ?_)
  · replace hF := if_t hF c1
    have hr9 := lp_r hF hx
    subst hr9
    exact K0 _ _ _ hH (lv_sub hl [0, 1, 3] rfl)
  · replace hF := if_f hF c1
    refine lv_aload_n X.x X.b (dk DX9_walksFrom_0 5 rfl) rfl (lv_at hl 0 rfl) ?_
    refine og_getR (t := 1) OX9 X hq hH 0 (by decide) rfl kF_X9_11 (dk DX9_walksFrom_0 6 rfl) ?_
    refine lv_iload X.x X.b (dk DX9_walksFrom_0 7 rfl) (lv_at hl 4 rfl) ?_
    refine lv_iload X.x X.b (dk DX9_walksFrom_0 8 rfl) (lv_at hl 4 rfl) ?_
    refine lv_iload_n X.x X.b (dk DX9_walksFrom_0 9 rfl) rfl (lv_at hl 2 rfl) ?_
    refine lv_icmp_ne (tgt := 26) X.x X.b (dk DX9_walksFrom_0 10 rfl) (by decide) (fun c2 => ?_) (fun c2 => ?_)
    · replace hF := if_f hF c2
      refine lv_lconst (v := 0) X.x X.b (dk DX9_walksFrom_0 13 rfl) (by decide) ?_
      obtain ⟨c3, hF⟩ := gd hF
      refine og_last X hq hH 0 (by decide) rfl (inb_in c3) (dk DX9_walksFrom_0 14 rfl) (fun H locs hH => ?_)
      obtain ⟨t4, e5⟩ : ∃ y, y = oB s_t 0 (vp_updL (s_t.2.2.2 0) (b4 : Int32).toNatClampNeg 0) := ⟨_, rfl⟩
      rw [← e5] at hH
      replace hF := bnd_e hF e5
      obtain ⟨v6, e7⟩ : ∃ y : Int32, y = b4 + 1 := ⟨_, rfl⟩
      replace hF := bnd_e hF e7
      refine lv_iinc (v := v6) (lv' := [(4, .int v6), (0, .ref (q 7)), (1, .ref (q1 5)), (2, .int b2), (3, .int b3)]) X.x X.b (dk DX9_walksFrom_0 15 rfl) hl (k := 4) rfl (by rw [e7]; rfl) (by decide) rfl (fun ls hl => ?_)
      replace hl : lv_has ls 7 [(0, .ref (q 7)), (1, .ref (q1 5)), (2, .int b2), (3, .int b3), (4, .int v6)] := lv_sub hl [1, 2, 3, 4, 0] rfl
      refine lv_goto (tgt := 3) X.x X.b (dk DX9_walksFrom_0 16 rfl) (by decide) ?_
      exact (lp_l hF hx) _ _ _ hH (lv_sub hl [0, 1, 2, 3, 4] rfl) K0
    · replace hF := if_t hF c2
      refine lv_lconst (v := 1) X.x X.b (dk DX9_walksFrom_0 11 rfl) (by decide) ?_
      refine lv_goto (tgt := 27) X.x X.b (dk DX9_walksFrom_0 12 rfl) (by decide) ?_
      obtain ⟨c8, hF⟩ := gd hF
      refine og_last X hq hH 0 (by decide) rfl (inb_in c8) (dk DX9_walksFrom_0 14 rfl) (fun H locs hH => ?_)
      obtain ⟨t9, e10⟩ : ∃ y, y = oB s_t 0 (vp_updL (s_t.2.2.2 0) (b4 : Int32).toNatClampNeg 1) := ⟨_, rfl⟩
      rw [← e10] at hH
      replace hF := bnd_e hF e10
      obtain ⟨v11, e12⟩ : ∃ y : Int32, y = b4 + 1 := ⟨_, rfl⟩
      replace hF := bnd_e hF e12
      refine lv_iinc (v := v11) (lv' := [(4, .int v11), (0, .ref (q 7)), (1, .ref (q1 5)), (2, .int b2), (3, .int b3)]) X.x X.b (dk DX9_walksFrom_0 15 rfl) hl (k := 4) rfl (by rw [e12]; rfl) (by decide) rfl (fun ls hl => ?_)
      replace hl : lv_has ls 7 [(0, .ref (q 7)), (1, .ref (q1 5)), (2, .int b2), (3, .int b3), (4, .int v11)] := lv_sub hl [1, 2, 3, 4, 0] rfl
      refine lv_goto (tgt := 3) X.x X.b (dk DX9_walksFrom_0 16 rfl) (by decide) ?_
      exact (lp_l hF hx) _ _ _ hH (lv_sub hl [0, 1, 2, 3, 4] rfl) K0
set_option maxHeartbeats 4000000 in
set_option maxRecDepth 100000 in
theorem w_X9_walksFrom_37 {p : Program} {l : Launch} {e : Env} {s : State} {m : MethodId} {args : Array Value} {below : List Frame} {meth : Method} {c : Code} {Q : State → Prop} {G : mG} {h : mM} {q : Nat → Nat} {q1 : Nat → Nat} (hq : oinj LX9 q) (hq1 : oinj LX10 q1) (ha : oap [(LX9, q), (LX10, q1)]) (X : mX G p m c cX9_walksFrom 7 s args RX9) (s_o1 : OS) (b3 : Int32) : ∀ (z : OS × Int32) (r : OS), lpv (f_X9_walksFrom_37 s_o1 b3) z = some r → ∀ (H : Heap) (locs : List Loc) (ls : Array Slot), mH G (oset LX9 G q z.1 (oset LX10 G q1 s_o1 h)) s.heap H locs → lv_has ls 7 [(0, .ref (q 7)), (1, .ref (q1 5)), (3, .int b3), (4, .int z.2)] → (∀ (H : Heap) (locs : List Loc) (ls : Array Slot), mH G (oset LX9 G q r (oset LX10 G q1 s_o1 h)) s.heap H locs → lv_has ls 7 [(0, .ref (q 7)), (1, .ref (q1 5)), (3, .int b3)] → W p l e rm_X9_walksFrom s m args below meth c H locs 0 0 Q (F0 m 56 ls [])) → W p l e rm_X9_walksFrom s m args below meth c H locs 0 0 Q (F0 m 37 ls []) := by
  refine lpv_rec ?_
  intro z r x hF hx H locs ls hH hl K0
  obtain ⟨s_t, b4⟩ := z
  dsimp only [f_X9_walksFrom_37] at hF
  try dsimp only at hH hl
  refine lv_iload X.x X.b (dk DX9_walksFrom_0 19 rfl) (lv_at hl 3 rfl) ?_
  refine lv_iload_n X.x X.b (dk DX9_walksFrom_0 20 rfl) rfl (lv_at hl 2 rfl) ?_
  refine lv_iconst (v := 2) X.x X.b (dk DX9_walksFrom_0 21 rfl) (by decide) ?_
  refine lv_idiv X.x X.b (dk DX9_walksFrom_0 22 rfl) (by decide) ?_
  refine lv_icmp_ge (tgt := 56) X.x X.b (dk DX9_walksFrom_0 23 rfl) (by decide) (fun c16 => ?_) (fun c16 => ?_)
  · replace hF := if_t hF c16
    have hr9 := lp_r hF hx
    subst hr9
    exact K0 _ _ _ hH (lv_sub hl [0, 1, 2] rfl)
  · replace hF := if_f hF c16
    refine lv_aload_n X.x X.b (dk DX9_walksFrom_0 24 rfl) rfl (lv_at hl 0 rfl) ?_
    refine lv_aload_n X.x X.b (dk DX9_walksFrom_0 25 rfl) rfl (lv_at hl 1 rfl) ?_
    obtain ⟨x17, e18, hF⟩ := bd hF
    refine mr_cv0 hH ⟨rfl, rfl⟩ (mr_runV (As := [.ref (q1 5)]) (rest := []) X hH (c_X9_walkOn hq hq1 ha e18) ((oset_at hq (Nat.le_refl _) ohas_N).trans (congrArg some ocell_N)) OX9.1 kM_X9_43 kI_X9_walkOn kS_X9_walkOn kN_X9 kC_X9_walkOn hd_X9_walkOn ⟨Nat.le_of_ble_eq_true rfl, Nat.le_of_ble_eq_true rfl⟩ rfl hl.1 (Nat.le_of_ble_eq_true rfl) (dk DX9_walksFrom_0 26 rfl) ⟨Nat.zero_le _, Nat.zero_le _⟩) (fun h1 H locs hp hH => ?_)
    rw [hp] at hH; clear hp
    obtain ⟨v20, e21⟩ : ∃ y : Int32, y = b4 + 1 := ⟨_, rfl⟩
    replace hF := bnd_e hF e21
    refine lv_iinc (v := v20) (lv' := [(4, .int v20), (0, .ref (q 7)), (1, .ref (q1 5)), (3, .int b3)]) X.x X.b (dk DX9_walksFrom_0 27 rfl) hl (k := 3) rfl (by rw [e21]; rfl) (by decide) rfl (fun ls hl => ?_)
    replace hl : lv_has ls 7 [(0, .ref (q 7)), (1, .ref (q1 5)), (3, .int b3), (4, .int v20)] := lv_sub hl [1, 2, 3, 0] rfl
    refine lv_goto (tgt := 37) X.x X.b (dk DX9_walksFrom_0 28 rfl) (by decide) ?_
    exact (lp_l hF hx) _ _ _ hH (lv_sub hl [0, 1, 2, 3] rfl) K0
set_option maxHeartbeats 4000000 in
set_option maxRecDepth 100000 in
theorem w_X9_walksFrom_89 {p : Program} {l : Launch} {e : Env} {s : State} {m : MethodId} {args : Array Value} {below : List Frame} {meth : Method} {c : Code} {Q : State → Prop} {G : mG} {h : mM} {q : Nat → Nat} {q1 : Nat → Nat} (hq : oinj LX9 q) (hq1 : oinj LX10 q1) (ha : oap [(LX9, q), (LX10, q1)]) (X : mX G p m c cX9_walksFrom 7 s args RX9) (s_t : OS) (s_o1 : OS) : ∀ (z : Int64 × Int32) (r : Int64), lpv (f_X9_walksFrom_89 s_t s_o1) z = some r → ∀ (H : Heap) (locs : List Loc) (ls : Array Slot), mH G (oset LX9 G q s_t (oset LX10 G q1 s_o1 h)) s.heap H locs → lv_has ls 7 [(0, .ref (q 7)), (4, .long z.1), (6, .int z.2)] → (∀ (H : Heap) (locs : List Loc) (ls : Array Slot), mH G (oset LX9 G q s_t (oset LX10 G q1 s_o1 h)) s.heap H locs → lv_has ls 7 [(4, .long r)] → W p l e rm_X9_walksFrom s m args below meth c H locs 0 0 Q (F0 m 122 ls [])) → W p l e rm_X9_walksFrom s m args below meth c H locs 0 0 Q (F0 m 89 ls []) := by
  refine lpv_rec ?_
  intro z r x hF hx H locs ls hH hl K0
  obtain ⟨b4, b6⟩ := z
  dsimp only [f_X9_walksFrom_89] at hF
  try dsimp only at hH hl
  refine lv_iload X.x X.b (dk DX9_walksFrom_0 49 rfl) (lv_at hl 2 rfl) ?_
  refine lv_bipush (v := 64) X.x X.b (dk DX9_walksFrom_0 50 rfl) (by decide) ?_
  refine lv_icmp_ge (tgt := 122) X.x X.b (dk DX9_walksFrom_0 51 rfl) (by decide) (fun c29 => ?_) (fun c29 => ?_)
  · replace hF := if_t hF c29
    have hr9 := lp_r hF hx
    subst hr9
    exact K0 _ _ _ hH (lv_sub hl [1] rfl)
  · replace hF := if_f hF c29
    refine lv_lload X.x X.b (dk DX9_walksFrom_0 52 rfl) (lv_at hl 1 rfl) ?_
    refine lv_aload_n X.x X.b (dk DX9_walksFrom_0 53 rfl) rfl (lv_at hl 0 rfl) ?_
    refine og_getR (t := 1) OX9 X hq hH 1 (by decide) rfl kF_X9_17 (dk DX9_walksFrom_0 54 rfl) ?_
    refine lv_iload X.x X.b (dk DX9_walksFrom_0 55 rfl) (lv_at hl 2 rfl) ?_
    obtain ⟨c30, hF⟩ := gd hF
    refine og_lald X hq hH 1 (by decide) rfl (inb_in c30) (dk DX9_walksFrom_0 56 rfl) ?_
    refine lv_aload_n X.x X.b (dk DX9_walksFrom_0 57 rfl) rfl (lv_at hl 0 rfl) ?_
    refine og_getR (t := 1) OX9 X hq hH 0 (by decide) rfl kF_X9_11 (dk DX9_walksFrom_0 58 rfl) ?_
    refine lv_iload X.x X.b (dk DX9_walksFrom_0 59 rfl) (lv_at hl 2 rfl) ?_
    refine og_lald X hq hH 0 (by decide) rfl (inb_in c30) (dk DX9_walksFrom_1 0 rfl) ?_
    refine lv_lmul X.x X.b (dk DX9_walksFrom_1 1 rfl) ?_
    refine lv_ladd X.x X.b (dk DX9_walksFrom_1 2 rfl) ?_
    refine lv_topl (fun v31 e32 => ?_)
    replace hF := bnd_e hF e32
    refine lv_lstore (lv' := [(4, .long v31), (0, .ref (q 7)), (6, .int b6)]) X.x X.b (dk DX9_walksFrom_1 3 rfl) hl (by decide) rfl (fun ls hl => ?_)
    replace hl : lv_has ls 7 [(0, .ref (q 7)), (4, .long v31), (6, .int b6)] := lv_sub hl [1, 0, 2] rfl
    obtain ⟨v33, e34⟩ : ∃ y : Int32, y = b6 + 1 := ⟨_, rfl⟩
    replace hF := bnd_e hF e34
    refine lv_iinc (v := v33) (lv' := [(6, .int v33), (0, .ref (q 7)), (4, .long v31)]) X.x X.b (dk DX9_walksFrom_1 4 rfl) hl (k := 2) rfl (by rw [e34]; rfl) (by decide) rfl (fun ls hl => ?_)
    replace hl : lv_has ls 7 [(0, .ref (q 7)), (4, .long v31), (6, .int v33)] := lv_sub hl [1, 2, 0] rfl
    refine lv_goto (tgt := 89) X.x X.b (dk DX9_walksFrom_1 5 rfl) (by decide) ?_
    exact (lp_l hF hx) _ _ _ hH (lv_sub hl [0, 1, 2] rfl) K0
set_option maxHeartbeats 4000000 in
set_option maxRecDepth 100000 in
theorem c_X9_walksFrom {l : Launch} {G : mG} {h : mM} {q : Nat → Nat} {q1 : Nat → Nat} (hq : oinj LX9 q) (hq1 : oinj LX10 q1) (ha : oap [(LX9, q), (LX10, q1)]) {st : OS} {st1 : OS} {a1 : Int32} {a2 : Int32} {x : Int64 × OS} (hF : f_X9_walksFrom st st1 a1 a2 = some x) : cQ l G yX9_walksFrom cX9_walksFrom 7 (some FieldType.long) rm_X9_walksFrom [.ref (q 7), .ref (q1 5), .int a1, .int a2] (oset LX9 G q st (oset LX10 G q1 st1 h)) (mQl G (fun r h1 => r = x.1 ∧ h1 = oset LX9 G q x.2 (oset LX10 G q1 st1 h))) := by
  refine mp_of (by decide +kernel) (Nat.le_of_ble_eq_true rfl) ?_
  intro p e s m below meth c X hr hlk hH hname ls hl
  dsimp only [f_X9_walksFrom] at hF
  replace hl : lv_has ls 7 [(0, .ref (q 7)), (1, .ref (q1 5)), (2, .int a1), (3, .int a2)] := hl
  refine lv_iconst (v := 0) X.x X.b (dk DX9_walksFrom_0 0 rfl) (by decide) ?_
  refine lv_istore (lv' := [(4, .int 0), (0, .ref (q 7)), (1, .ref (q1 5)), (2, .int a1), (3, .int a2)]) X.x X.b (dk DX9_walksFrom_0 1 rfl) hl (by decide) rfl (fun ls hl => ?_)
  replace hl : lv_has ls 7 [(0, .ref (q 7)), (1, .ref (q1 5)), (2, .int a1), (3, .int a2), (4, .int 0)] := lv_sub hl [1, 2, 3, 4, 0] rfl
  obtain ⟨x13, e14, hF⟩ := bd hF
  replace hl : lv_has ls 7 [(0, .ref (q 7)), (1, .ref (q1 5)), (2, .int a1), (3, .int a2), (4, .int 0)] := lv_sub hl [0, 1, 2, 3, 4] rfl
  refine w_X9_walksFrom_3 hq hq1 ha X st1 a1 a2 _ _ e14 _ _ _ hH hl (fun H locs ls hH hl => ?_)
  refine lv_iconst (v := 0) X.x X.b (dk DX9_walksFrom_0 17 rfl) (by decide) ?_
  refine lv_istore (lv' := [(4, .int 0), (0, .ref (q 7)), (1, .ref (q1 5)), (3, .int a2)]) X.x X.b (dk DX9_walksFrom_0 18 rfl) hl (by decide) rfl (fun ls hl => ?_)
  replace hl : lv_has ls 7 [(0, .ref (q 7)), (1, .ref (q1 5)), (3, .int a2), (4, .int 0)] := lv_sub hl [1, 2, 3, 0] rfl
  obtain ⟨x22, e23, hF⟩ := bd hF
  replace hl : lv_has ls 7 [(0, .ref (q 7)), (1, .ref (q1 5)), (3, .int a2), (4, .int 0)] := lv_sub hl [0, 1, 2, 3] rfl
  refine w_X9_walksFrom_37 hq hq1 ha X st1 a2 _ _ e23 _ _ _ hH hl (fun H locs ls hH hl => ?_)
  refine lv_aload_n X.x X.b (dk DX9_walksFrom_0 29 rfl) rfl (lv_at hl 0 rfl) ?_
  refine og_getR (t := 1) OX9 X hq hH 0 (by decide) rfl kF_X9_11 (dk DX9_walksFrom_0 30 rfl) ?_
  refine lv_iconst (v := 0) X.x X.b (dk DX9_walksFrom_0 31 rfl) (by decide) ?_
  refine lv_aload_n X.x X.b (dk DX9_walksFrom_0 32 rfl) rfl (lv_at hl 0 rfl) ?_
  refine og_getR (t := 1) OX9 X hq hH 1 (by decide) rfl kF_X9_17 (dk DX9_walksFrom_0 33 rfl) ?_
  refine lv_iconst (v := 0) X.x X.b (dk DX9_walksFrom_0 34 rfl) (by decide) ?_
  refine lv_bipush (v := 64) X.x X.b (dk DX9_walksFrom_0 35 rfl) (by decide) ?_
  obtain ⟨c25, hF⟩ := gd hF
  refine og_copyl X hl.1 hq hH 1 (by decide) rfl ((oset_at hq (k := 0) (by decide) rfl).trans (congrArg some (oc_k (t := 3) (n := 64) (by decide) rfl))) c25 kM_X9_47 kV_rraycopyName kT_rraycopyName kN_J10 (Nat.le_of_ble_eq_true rfl) (Nat.le_of_ble_eq_true rfl) (dk DX9_walksFrom_0 36 rfl) (fun H locs hH => ?_)
  obtain ⟨t26, e27⟩ : ∃ y, y = oB x22 1 (va_cpy (x22.2.2.2 0) (x22.2.2.2 1) (0 : Int32).toNatClampNeg (0 : Int32).toNatClampNeg (64 : Int32).toNatClampNeg) := ⟨_, rfl⟩
  rw [← e27] at hH
  replace hF := bnd_e hF e27
  refine lv_iload_n X.x X.b (dk DX9_walksFrom_0 37 rfl) rfl (lv_at hl 2 rfl) ?_
  refine lv_iconst (v := 2) X.x X.b (dk DX9_walksFrom_0 38 rfl) (by decide) ?_
  refine lv_irem X.x X.b (dk DX9_walksFrom_0 39 rfl) (by decide) ?_
  refine lv_iconst (v := 1) X.x X.b (dk DX9_walksFrom_0 40 rfl) (by decide) ?_
  refine lv_icmp_ne (tgt := 83) X.x X.b (dk DX9_walksFrom_0 41 rfl) (by decide) (fun c28 => ?_) (fun c28 => ?_)
  · replace hF := if_f hF c28
    refine lv_lconst (v := 0) X.x X.b (dk DX9_walksFrom_0 45 rfl) (by decide) ?_
    refine lv_lstore (lv' := [(4, .long 0), (0, .ref (q 7)), (1, .ref (q1 5)), (3, .int a2)]) X.x X.b (dk DX9_walksFrom_0 46 rfl) hl (by decide) rfl (fun ls hl => ?_)
    replace hl : lv_has ls 7 [(0, .ref (q 7)), (4, .long 0)] := lv_sub hl [1, 0] rfl
    refine lv_iconst (v := 0) X.x X.b (dk DX9_walksFrom_0 47 rfl) (by decide) ?_
    refine lv_istore (lv' := [(6, .int 0), (0, .ref (q 7)), (4, .long 0)]) X.x X.b (dk DX9_walksFrom_0 48 rfl) hl (by decide) rfl (fun ls hl => ?_)
    replace hl : lv_has ls 7 [(0, .ref (q 7)), (4, .long 0), (6, .int 0)] := lv_sub hl [1, 2, 0] rfl
    obtain ⟨x35, e36, hF⟩ := bd hF
    replace hl : lv_has ls 7 [(0, .ref (q 7)), (4, .long 0), (6, .int 0)] := lv_sub hl [0, 1, 2] rfl
    refine w_X9_walksFrom_89 hq hq1 ha X t26 st1 _ _ e36 _ _ _ hH hl (fun H locs ls hH hl => ?_)
    refine lv_lload X.x X.b (dk DX9_walksFrom_1 6 rfl) (lv_at hl 0 rfl) ?_
    cases sm hF
    exact mr_lret X hr hlk hH ⟨rfl, rfl⟩ (dk DX9_walksFrom_1 7 rfl)
  · replace hF := if_t hF c28
    refine lv_aload_n X.x X.b (dk DX9_walksFrom_0 42 rfl) rfl (lv_at hl 0 rfl) ?_
    refine lv_aload_n X.x X.b (dk DX9_walksFrom_0 43 rfl) rfl (lv_at hl 1 rfl) ?_
    obtain ⟨x38, e39, hF⟩ := bd hF
    refine mr_cv0 hH ⟨rfl, rfl⟩ (mr_runV (As := [.ref (q1 5)]) (rest := []) X hH (c_X9_walkOn hq hq1 ha e39) ((oset_at hq (Nat.le_refl _) ohas_N).trans (congrArg some ocell_N)) OX9.1 kM_X9_43 kI_X9_walkOn kS_X9_walkOn kN_X9 kC_X9_walkOn hd_X9_walkOn ⟨Nat.le_of_ble_eq_true rfl, Nat.le_of_ble_eq_true rfl⟩ rfl hl.1 (Nat.le_of_ble_eq_true rfl) (dk DX9_walksFrom_0 44 rfl) ⟨Nat.zero_le _, Nat.zero_le _⟩) (fun h1 H locs hp hH => ?_)
    rw [hp] at hH; clear hp
    refine lv_lconst (v := 0) X.x X.b (dk DX9_walksFrom_0 45 rfl) (by decide) ?_
    refine lv_lstore (lv' := [(4, .long 0), (0, .ref (q 7)), (1, .ref (q1 5)), (3, .int a2)]) X.x X.b (dk DX9_walksFrom_0 46 rfl) hl (by decide) rfl (fun ls hl => ?_)
    replace hl : lv_has ls 7 [(0, .ref (q 7)), (4, .long 0)] := lv_sub hl [1, 0] rfl
    refine lv_iconst (v := 0) X.x X.b (dk DX9_walksFrom_0 47 rfl) (by decide) ?_
    refine lv_istore (lv' := [(6, .int 0), (0, .ref (q 7)), (4, .long 0)]) X.x X.b (dk DX9_walksFrom_0 48 rfl) hl (by decide) rfl (fun ls hl => ?_)
    replace hl : lv_has ls 7 [(0, .ref (q 7)), (4, .long 0), (6, .int 0)] := lv_sub hl [1, 2, 0] rfl
    obtain ⟨x41, e42, hF⟩ := bd hF
    replace hl : lv_has ls 7 [(0, .ref (q 7)), (4, .long 0), (6, .int 0)] := lv_sub hl [0, 1, 2] rfl
    refine w_X9_walksFrom_89 hq hq1 ha X x38 st1 _ _ e42 _ _ _ hH hl (fun H locs ls hH hl => ?_)
    refine lv_lload X.x X.b (dk DX9_walksFrom_1 6 rfl) (lv_at hl 0 rfl) ?_
    cases sm hF
    exact mr_lret X hr hlk hH ⟨rfl, rfl⟩ (dk DX9_walksFrom_1 7 rfl)
-- X9_closedWalks
abbrev rm_X9_closedWalks : Room := { frames := 4, cells := 0, slots := 0, locals := 97 }
theorem hd_X9_closedWalks : mHd yX9_closedWalks 2 := ⟨by decide +kernel, by decide +kernel, by decide +kernel⟩
theorem DX9_closedWalks_0 : ∀ t ∈ ([(0, .lconst 0, 1), (1, .lstore_n 3, 1), (2, .iconst 0, 1), (3, .istore 5, 2), (5, .iload 5, 2), (7, .aload_n 1, 1), (8, .getfield 33, 3), (11, .if_icmp .ge 20, 3), (14, .lload_n 3, 1), (15, .aload_n 0, 1), (16, .aload_n 1, 1), (17, .iload 5, 2), (19, .iload_n 2, 1), (20, .invokevirtual 37, 3), (23, .ladd, 1), (24, .lstore_n 3, 1), (25, .iinc 5 1, 3), (28, .goto (-23), 3), (31, .lload_n 3, 1), (32, .ldc2_w 41, 3), (35, .lrem, 1), (36, .l2i, 1), (37, .ireturn, 1)] : List (Nat × Instr × Nat)), decode cX9_closedWalks t.1 = .ok (t.2.1, t.2.2) := by decide +kernel
noncomputable def f_X9_closedWalks_5 (s_o1 : OS) (b2 : Int32) : (OS × Int64 × Int32) → Option ((OS × Int64 × Int32) ⊕ (OS × Int64)) := fun z => match z with | (s_t, b3, b5) => (if (s_o1.1 0) ≤ b5 then some (.inr ((s_t, b3))) else (f_X9_walksFrom s_t s_o1 b5 b2).bind (fun x2 => match x2 with | (v4, t5) => bnd (b3 + v4 : Int64) (fun v6 => bnd (b5 + 1 : Int32) (fun v8 => some (.inl ((t5, v6, v8)))))))
noncomputable def f_X9_closedWalks (st : OS) (st1 : OS) (a1 : Int32) : Option (Int32 × OS) := (lpv (f_X9_closedWalks_5 st1 a1) ((st, 0, 0))).bind (fun x10 => match x10 with | (t12, v13) => some (((v13 - v13 / 1000000007 * 1000000007 : Int64).toInt32, t12)))
set_option maxHeartbeats 4000000 in
set_option maxRecDepth 100000 in
theorem w_X9_closedWalks_5 {p : Program} {l : Launch} {e : Env} {s : State} {m : MethodId} {args : Array Value} {below : List Frame} {meth : Method} {c : Code} {Q : State → Prop} {G : mG} {h : mM} {q : Nat → Nat} {q1 : Nat → Nat} (hq : oinj LX9 q) (hq1 : oinj LX10 q1) (ha : oap [(LX9, q), (LX10, q1)]) (X : mX G p m c cX9_closedWalks 6 s args RX9) (s_o1 : OS) (b2 : Int32) : ∀ (z : OS × Int64 × Int32) (r : OS × Int64), lpv (f_X9_closedWalks_5 s_o1 b2) z = some r → ∀ (H : Heap) (locs : List Loc) (ls : Array Slot), mH G (oset LX9 G q z.1 (oset LX10 G q1 s_o1 h)) s.heap H locs → lv_has ls 6 [(0, .ref (q 7)), (1, .ref (q1 5)), (2, .int b2), (3, .long z.2.1), (5, .int z.2.2)] → (∀ (H : Heap) (locs : List Loc) (ls : Array Slot), mH G (oset LX9 G q r.1 (oset LX10 G q1 s_o1 h)) s.heap H locs → lv_has ls 6 [(3, .long r.2)] → W p l e rm_X9_closedWalks s m args below meth c H locs 0 0 Q (F0 m 31 ls [])) → W p l e rm_X9_closedWalks s m args below meth c H locs 0 0 Q (F0 m 5 ls []) := by
  refine lpv_rec ?_
  intro z r x hF hx H locs ls hH hl K0
  obtain ⟨s_t, b3, b5⟩ := z
  dsimp only [f_X9_closedWalks_5] at hF
  try dsimp only at hH hl
  refine lv_iload X.x X.b (dk DX9_closedWalks_0 4 rfl) (lv_at hl 4 rfl) ?_
  refine lv_aload_n X.x X.b (dk DX9_closedWalks_0 5 rfl) rfl (lv_at hl 1 rfl) ?_
  refine og_getIN OX10 X hq1 (mH_perm (l1 := [(LX9, q, s_t), (LX10, q1, s_o1)]) (l2 := [(LX10, q1, s_o1), (LX9, q, s_t)]) ha [1, 0] [1, 0] rfl rfl rfl hH) 0 (by decide) rfl kFN_X9_33 (dk DX9_closedWalks_0 6 rfl) ?_
  refine lv_icmp_ge (tgt := 31) X.x X.b (dk DX9_closedWalks_0 7 rfl) (by decide) (fun c1 => ?_) (fun c1 => ?_)
  · replace hF := if_t hF c1
    have hr9 := lp_r hF hx
    subst hr9
    exact K0 _ _ _ hH (lv_sub hl [3] rfl)
  · replace hF := if_f hF c1
    refine lv_lload_n X.x X.b (dk DX9_closedWalks_0 8 rfl) rfl (lv_at hl 3 rfl) ?_
    refine lv_aload_n X.x X.b (dk DX9_closedWalks_0 9 rfl) rfl (lv_at hl 0 rfl) ?_
    refine lv_aload_n X.x X.b (dk DX9_closedWalks_0 10 rfl) rfl (lv_at hl 1 rfl) ?_
    refine lv_iload X.x X.b (dk DX9_closedWalks_0 11 rfl) (lv_at hl 4 rfl) ?_
    refine lv_iload_n X.x X.b (dk DX9_closedWalks_0 12 rfl) rfl (lv_at hl 2 rfl) ?_
    obtain ⟨x2, e3, hF⟩ := bd hF
    refine mr_cl0 hH ⟨rfl, rfl⟩ (mr_runV (As := [.ref (q1 5), .int b5, .int b2]) (rest := [.long b3]) X hH (c_X9_walksFrom hq hq1 ha e3) ((oset_at hq (Nat.le_refl _) ohas_N).trans (congrArg some ocell_N)) OX9.1 kM_X9_37 kI_X9_walksFrom kS_X9_walksFrom kN_X9 kC_X9_walksFrom hd_X9_walksFrom ⟨Nat.le_of_ble_eq_true rfl, Nat.le_of_ble_eq_true rfl⟩ rfl hl.1 (Nat.le_of_ble_eq_true rfl) (dk DX9_closedWalks_0 13 rfl) ⟨Nat.zero_le _, Nat.zero_le _⟩) (fun r h1 H locs hp hH => ?_)
    obtain ⟨hr1, hr2⟩ := hp; rw [hr1]; rw [hr2] at hH; clear hr1 hr2
    obtain ⟨v4, t5⟩ := x2
    try dsimp only at hF hH ⊢
    refine lv_ladd X.x X.b (dk DX9_closedWalks_0 14 rfl) ?_
    refine lv_topl (fun v6 e7 => ?_)
    replace hF := bnd_e hF e7
    refine lv_lstore_n (lv' := [(3, .long v6), (0, .ref (q 7)), (1, .ref (q1 5)), (2, .int b2), (5, .int b5)]) X.x X.b (dk DX9_closedWalks_0 15 rfl) rfl hl (by decide) rfl (fun ls hl => ?_)
    replace hl : lv_has ls 6 [(0, .ref (q 7)), (1, .ref (q1 5)), (2, .int b2), (3, .long v6), (5, .int b5)] := lv_sub hl [1, 2, 3, 0, 4] rfl
    obtain ⟨v8, e9⟩ : ∃ y : Int32, y = b5 + 1 := ⟨_, rfl⟩
    replace hF := bnd_e hF e9
    refine lv_iinc (v := v8) (lv' := [(5, .int v8), (0, .ref (q 7)), (1, .ref (q1 5)), (2, .int b2), (3, .long v6)]) X.x X.b (dk DX9_closedWalks_0 16 rfl) hl (k := 4) rfl (by rw [e9]; rfl) (by decide) rfl (fun ls hl => ?_)
    replace hl : lv_has ls 6 [(0, .ref (q 7)), (1, .ref (q1 5)), (2, .int b2), (3, .long v6), (5, .int v8)] := lv_sub hl [1, 2, 3, 4, 0] rfl
    refine lv_goto (tgt := 5) X.x X.b (dk DX9_closedWalks_0 17 rfl) (by decide) ?_
    exact (lp_l hF hx) _ _ _ hH (lv_sub hl [0, 1, 2, 3, 4] rfl) K0
set_option maxHeartbeats 4000000 in
set_option maxRecDepth 100000 in
theorem c_X9_closedWalks {l : Launch} {G : mG} {h : mM} {q : Nat → Nat} {q1 : Nat → Nat} (hq : oinj LX9 q) (hq1 : oinj LX10 q1) (ha : oap [(LX9, q), (LX10, q1)]) {st : OS} {st1 : OS} {a1 : Int32} {x : Int32 × OS} (hF : f_X9_closedWalks st st1 a1 = some x) : cQ l G yX9_closedWalks cX9_closedWalks 6 (some FieldType.int) rm_X9_closedWalks [.ref (q 7), .ref (q1 5), .int a1] (oset LX9 G q st (oset LX10 G q1 st1 h)) (mQi G (fun r h1 => r = x.1 ∧ h1 = oset LX9 G q x.2 (oset LX10 G q1 st1 h))) := by
  refine mp_of (by decide +kernel) (Nat.le_of_ble_eq_true rfl) ?_
  intro p e s m below meth c X hr hlk hH hname ls hl
  dsimp only [f_X9_closedWalks] at hF
  replace hl : lv_has ls 6 [(0, .ref (q 7)), (1, .ref (q1 5)), (2, .int a1)] := hl
  refine lv_lconst (v := 0) X.x X.b (dk DX9_closedWalks_0 0 rfl) (by decide) ?_
  refine lv_lstore_n (lv' := [(3, .long 0), (0, .ref (q 7)), (1, .ref (q1 5)), (2, .int a1)]) X.x X.b (dk DX9_closedWalks_0 1 rfl) rfl hl (by decide) rfl (fun ls hl => ?_)
  replace hl : lv_has ls 6 [(0, .ref (q 7)), (1, .ref (q1 5)), (2, .int a1), (3, .long 0)] := lv_sub hl [1, 2, 3, 0] rfl
  refine lv_iconst (v := 0) X.x X.b (dk DX9_closedWalks_0 2 rfl) (by decide) ?_
  refine lv_istore (lv' := [(5, .int 0), (0, .ref (q 7)), (1, .ref (q1 5)), (2, .int a1), (3, .long 0)]) X.x X.b (dk DX9_closedWalks_0 3 rfl) hl (by decide) rfl (fun ls hl => ?_)
  replace hl : lv_has ls 6 [(0, .ref (q 7)), (1, .ref (q1 5)), (2, .int a1), (3, .long 0), (5, .int 0)] := lv_sub hl [1, 2, 3, 4, 0] rfl
  obtain ⟨x10, e11, hF⟩ := bd hF
  replace hl : lv_has ls 6 [(0, .ref (q 7)), (1, .ref (q1 5)), (2, .int a1), (3, .long 0), (5, .int 0)] := lv_sub hl [0, 1, 2, 3, 4] rfl
  obtain ⟨t12, v13⟩ := x10
  try dsimp only at hF
  refine w_X9_closedWalks_5 hq hq1 ha X st1 a1 _ _ e11 _ _ _ hH hl (fun H locs ls hH hl => ?_)
  try dsimp only at hH hl
  refine lv_lload_n X.x X.b (dk DX9_closedWalks_0 18 rfl) rfl (lv_at hl 0 rfl) ?_
  refine lv_ldc2 (v := 1000000007) X.x X.b X.ow (X.ts _ kK_X9_41) (dk DX9_closedWalks_0 19 rfl) ?_
  refine lv_lrem X.x X.b (dk DX9_closedWalks_0 20 rfl) (by decide) ?_
  refine lv_l2i X.x X.b (dk DX9_closedWalks_0 21 rfl) rfl ?_
  cases sm hF
  exact mr_iret X hr hlk hH ⟨rfl, rfl⟩ (dk DX9_closedWalks_0 22 rfl)
