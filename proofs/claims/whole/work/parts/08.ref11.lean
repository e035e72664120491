-- X12_isTray
abbrev rm_X12_isTray : Room := { frames := 1, cells := 0, slots := 0, locals := 25 }
theorem hd_X12_isTray : mHd yX12_isTray 1 := ⟨by decide +kernel, by decide +kernel, by decide +kernel⟩
theorem DX12_isTray_0 : ∀ t ∈ ([(0, .iload_n 0, 1), (1, .i2l, 1), (2, .lconst 0, 1), (3, .ldc2_w 455, 3), (6, .invokestatic 171, 3), (9, .ireturn, 1)] : List (Nat × Instr × Nat)), decode cX12_isTray t.1 = .ok (t.2.1, t.2.2) := by decide +kernel
noncomputable def f_X12_isTray (a0 : Int32) : Option (Int32) := (f_X12_within ((a0 : Int32).toInt64) 0 3).bind (fun x1 => if isb x1 = true then some x1 else none)
set_option maxHeartbeats 4000000 in
set_option maxRecDepth 100000 in
theorem c_X12_isTray {l : Launch} {G : mG} {h : mM}  {a0 : Int32} {x : Int32} (hF : f_X12_isTray a0 = some x) : cQ l G yX12_isTray cX12_isTray 1 (some FieldType.boolean) rm_X12_isTray [.int a0] (h) (mQi G (fun r h1 => r = x ∧ h1 = h)) := by
  refine mp_of (by decide +kernel) (Nat.le_of_ble_eq_true rfl) ?_
  intro p e s m below meth c X hr hlk hH hname ls hl
  dsimp only [f_X12_isTray] at hF
  replace hl : lv_has ls 1 [(0, .int a0)] := hl
  refine lv_iload_n X.x X.b (dk DX12_isTray_0 0 rfl) rfl (lv_at hl 0 rfl) ?_
  refine lv_i2l X.x X.b (dk DX12_isTray_0 1 rfl) rfl ?_
  refine lv_lconst (v := 0) X.x X.b (dk DX12_isTray_0 2 rfl) (by decide) ?_
  refine lv_ldc2 (v := 3) X.x X.b X.ow (X.ts _ kK_X12_455) (dk DX12_isTray_0 3 rfl) ?_
  obtain ⟨x1, e2, hF⟩ := bd hF
  refine mr_ci0 hH ⟨rfl, rfl⟩ (mr_runS (As := [.long ((a0 : Int32).toInt64), .long 0, .long 3]) (rest := []) X hH (c_X12_within e2) kM_X12_171 kT_X12_within kN_X12 kC_X12_within hd_X12_within ⟨Nat.le_of_ble_eq_true rfl, Nat.le_of_ble_eq_true rfl⟩ rfl hl.1 (Nat.le_of_ble_eq_true rfl) (dk DX12_isTray_0 4 rfl) ⟨Nat.zero_le _, Nat.zero_le _⟩) (fun r h1 H locs hp hH => ?_)
  obtain ⟨hr1, hr2⟩ := hp; rw [hr1]; rw [hr2] at hH; clear hr1 hr2
  obtain ⟨c4, hF⟩ := gd hF
  cases sm hF
  exact mr_zret X hr hlk hH (isb_nar c4) ⟨rfl, rfl⟩ (dk DX12_isTray_0 5 rfl)
-- X12_perform
abbrev rm_X12_perform : Room := { frames := 5, cells := 0, slots := 0, locals := 125 }
theorem hd_X12_perform : mHd yX12_perform 1 := ⟨by decide +kernel, by decide +kernel, by decide +kernel⟩
theorem DX12_perform_0 : ∀ t ∈ ([(0, .aload_n 0, 1), (1, .iload_n 1, 1), (2, .invokestatic 449, 3), (5, .ifCond .ne 7, 3), (8, .iconst 1, 1), (9, .goto 18, 3), (12, .aload_n 0, 1), (13, .getfield 84, 3), (16, .iload_n 1, 1), (17, .iaload, 1), (18, .iconst (-1), 1), (19, .if_icmp .ne 7, 3), (22, .iconst 2, 1), (23, .goto 4, 3), (26, .iconst 0, 1), (27, .putfield 106, 3), (30, .aload_n 0, 1), (31, .getfield 106, 3), (34, .ifCond .le 5, 3), (37, .iconst 0, 1), (38, .ireturn, 1), (39, .iconst 0, 1), (40, .istore_n 2, 1), (41, .iconst 0, 1), (42, .istore_n 3, 1), (43, .iload_n 3, 1), (44, .iconst (-1), 1), (45, .if_icmp .eq 25, 3), (48, .iload_n 3, 1), (49, .aload_n 0, 1), (50, .getfield 87, 3), (53, .iload_n 1, 1), (54, .iaload, 1), (55, .if_icmp .ge 15, 3), (58, .iload_n 3, 1), (59, .istore_n 2, 1), (60, .aload_n 0, 1), (61, .iload_n 1, 1), (62, .iload_n 2, 1), (63, .invokevirtual 452, 3), (66, .istore_n 3, 1), (67, .goto (-24), 3), (70, .iload_n 3, 1), (71, .iconst (-1), 1), (72, .if_icmp .ne 7, 3), (75, .iload_n 2, 1), (76, .goto 4, 3), (79, .iload_n 3, 1), (80, .ireturn, 1)] : List (Nat × Instr × Nat)), decode cX12_perform t.1 = .ok (t.2.1, t.2.2) := by decide +kernel
noncomputable def f_X12_perform_43 (b1 : Int32) : (OS × Int32 × Int32) → Option ((OS × Int32 × Int32) ⊕ (OS × Int32 × Int32)) := fun z => match z with | (s_t, b2, b3) => (if b3 = ((-1)) then some (.inr ((s_t, b2, b3))) else if inb b1 4 = true then (if (s_t.2.2.1 47 (b1 : Int32).toNatClampNeg) ≤ b3 then some (.inr ((s_t, b2, b3))) else (f_X12_does s_t b1 b3).bind (fun x13 => match x13 with | (v15, t16) => some (.inl ((t16, b3, v15))))) else none)
noncomputable def f_X12_perform (st : OS) (a0 : Int32) : Option (Int32 × OS) := (f_X12_isTray a0).bind (fun x1 => (if x1 = 0 then bnd (oI st 2 1) (fun t32 => (if (t32.1 2) ≤ 0 then (lpv (f_X12_perform_43 a0) ((t32, 0, 0))).bind (fun x35 => match x35 with | (t37, v38, v39) => (if v39 = ((-1)) then some ((v38, t37)) else some ((v39, t37)))) else some ((0, t32)))) else if inb a0 4 = true then (if (st.2.2.1 46 (a0 : Int32).toNatClampNeg) = ((-1)) then bnd (oI st 2 2) (fun t23 => (if (t23.1 2) ≤ 0 then (lpv (f_X12_perform_43 a0) ((t23, 0, 0))).bind (fun x26 => match x26 with | (t28, v29, v30) => (if v30 = ((-1)) then some ((v29, t28)) else some ((v30, t28)))) else some ((0, t23)))) else bnd (oI st 2 0) (fun t7 => (if (t7.1 2) ≤ 0 then (lpv (f_X12_perform_43 a0) ((t7, 0, 0))).bind (fun x17 => match x17 with | (t19, v20, v21) => (if v21 = ((-1)) then some ((v20, t19)) else some ((v21, t19)))) else some ((0, t7))))) else none))
set_option maxHeartbeats 4000000 in
set_option maxRecDepth 100000 in
theorem w_X12_perform_43 {p : Program} {l : Launch} {e : Env} {s : State} {m : MethodId} {args : Array Value} {below : List Frame} {meth : Method} {c : Code} {Q : State → Prop} {G : mG} {h : mM} {q : Nat → Nat} (hq : oinj LX12 q) (X : mX G p m c cX12_perform 4 s args RX12) (b1 : Int32) : ∀ (z : OS × Int32 × Int32) (r : OS × Int32 × Int32), lpv (f_X12_perform_43 b1) z = some r → ∀ (H : Heap) (locs : List Loc) (ls : Array Slot), mH G (oset LX12 G q z.1 h) s.heap H locs → lv_has ls 4 [(0, .ref (q 53)), (1, .int b1), (2, .int z.2.1), (3, .int z.2.2)] → (∀ (H : Heap) (locs : List Loc) (ls : Array Slot), mH G (oset LX12 G q r.1 h) s.heap H locs → lv_has ls 4 [(2, .int r.2.1), (3, .int r.2.2)] → W p l e rm_X12_perform s m args below meth c H locs 0 0 Q (F0 m 70 ls [])) → W p l e rm_X12_perform s m args below meth c H locs 0 0 Q (F0 m 43 ls []) := by
  refine lpv_rec ?_
  intro z r x hF hx H locs ls hH hl K0
  obtain ⟨s_t, b2, b3⟩ := z
  dsimp only [f_X12_perform_43] at hF
  try dsimp only at hH hl
  refine lv_iload_n X.x X.b (dk DX12_perform_0 25 rfl) rfl (lv_at hl 3 rfl) ?_
  refine lv_iconst (v := (-1)) X.x X.b (dk DX12_perform_0 26 rfl) (by decide) ?_
  refine lv_icmp_eq (tgt := 70) X.x X.b (dk DX12_perform_0 27 rfl) (by decide) (fun c10 => ?_) (fun c10 => ?_)
  · replace hF := if_t hF c10
    have hr9 := lp_r hF hx
    subst hr9
    exact K0 _ _ _ hH (lv_sub hl [2, 3] rfl)
  · replace hF := if_f hF c10
    refine lv_iload_n X.x X.b (dk DX12_perform_0 28 rfl) rfl (lv_at hl 3 rfl) ?_
    refine lv_aload_n X.x X.b (dk DX12_perform_0 29 rfl) rfl (lv_at hl 0 rfl) ?_
    refine og_getR (t := 0) OX12 X hq hH 47 (by decide) rfl kF_X12_87 (dk DX12_perform_0 30 rfl) ?_
    refine lv_iload_n X.x X.b (dk DX12_perform_0 31 rfl) rfl (lv_at hl 1 rfl) ?_
    obtain ⟨c11, hF⟩ := gd hF
    refine og_iald X hq hH 47 (by decide) rfl (inb_in c11) (dk DX12_perform_0 32 rfl) ?_
    refine lv_icmp_ge (tgt := 70) X.x X.b (dk DX12_perform_0 33 rfl) (by decide) (fun c12 => ?_) (fun c12 => ?_)
    · replace hF := if_t hF c12
      have hr9 := lp_r hF hx
      subst hr9
      exact K0 _ _ _ hH (lv_sub hl [2, 3] rfl)
    · replace hF := if_f hF c12
      refine lv_iload_n X.x X.b (dk DX12_perform_0 34 rfl) rfl (lv_at hl 3 rfl) ?_
      refine lv_istore_n (lv' := [(2, .int b3), (0, .ref (q 53)), (1, .int b1), (3, .int b3)]) X.x X.b (dk DX12_perform_0 35 rfl) rfl hl (by decide) rfl (fun ls hl => ?_)
      replace hl : lv_has ls 4 [(0, .ref (q 53)), (1, .int b1), (2, .int b3)] := lv_sub hl [1, 2, 0] rfl
      refine lv_aload_n X.x X.b (dk DX12_perform_0 36 rfl) rfl (lv_at hl 0 rfl) ?_
      refine lv_iload_n X.x X.b (dk DX12_perform_0 37 rfl) rfl (lv_at hl 1 rfl) ?_
      refine lv_iload_n X.x X.b (dk DX12_perform_0 38 rfl) rfl (lv_at hl 2 rfl) ?_
      obtain ⟨x13, e14, hF⟩ := bd hF
      refine mr_ci0 hH ⟨rfl, rfl⟩ (mr_runV (As := [.int b1, .int b3]) (rest := []) X hH (c_X12_does hq e14) ((oset_at hq (Nat.le_refl _) ohas_N).trans (congrArg some ocell_N)) OX12.1 kM_X12_452 kI_X12_does kS_X12_does kN_X12 kC_X12_does hd_X12_does ⟨Nat.le_of_ble_eq_true rfl, Nat.le_of_ble_eq_true rfl⟩ rfl hl.1 (Nat.le_of_ble_eq_true rfl) (dk DX12_perform_0 39 rfl) ⟨Nat.zero_le _, Nat.zero_le _⟩) (fun r h1 H locs hp hH => ?_)
      obtain ⟨hr1, hr2⟩ := hp; rw [hr1]; rw [hr2] at hH; clear hr1 hr2
      obtain ⟨v15, t16⟩ := x13
      try dsimp only at hF hH ⊢
      refine lv_istore_n (lv' := [(3, .int v15), (0, .ref (q 53)), (1, .int b1), (2, .int b3)]) X.x X.b (dk DX12_perform_0 40 rfl) rfl hl (by decide) rfl (fun ls hl => ?_)
      replace hl : lv_has ls 4 [(0, .ref (q 53)), (1, .int b1), (2, .int b3), (3, .int v15)] := lv_sub hl [1, 2, 3, 0] rfl
      refine lv_goto (tgt := 43) X.x X.b (dk DX12_perform_0 41 rfl) (by decide) ?_
      exact (lp_l hF hx) _ _ _ hH (lv_sub hl [0, 1, 2, 3] rfl) K0
set_option maxHeartbeats 4000000 in
set_option maxRecDepth 100000 in
theorem c_X12_perform {l : Launch} {G : mG} {h : mM} {q : Nat → Nat} (hq : oinj LX12 q) {st : OS} {a0 : Int32} {x : Int32 × OS} (hF : f_X12_perform st a0 = some x) : cQ l G yX12_perform cX12_perform 4 (some FieldType.int) rm_X12_perform [.ref (q 53), .int a0] (oset LX12 G q st h) (mQi G (fun r h1 => r = x.1 ∧ h1 = oset LX12 G q x.2 h)) := by
  refine mp_of (by decide +kernel) (Nat.le_of_ble_eq_true rfl) ?_
  intro p e s m below meth c X hr hlk hH hname ls hl
  dsimp only [f_X12_perform] at hF
  replace hl : lv_has ls 4 [(0, .ref (q 53)), (1, .int a0)] := hl
  refine lv_aload_n X.x X.b (dk DX12_perform_0 0 rfl) rfl (lv_at hl 0 rfl) ?_
  refine lv_iload_n X.x X.b (dk DX12_perform_0 1 rfl) rfl (lv_at hl 1 rfl) ?_
  obtain ⟨x1, e2, hF⟩ := bd hF
  refine mr_ci0 hH ⟨rfl, rfl⟩ (mr_runS (As := [.int a0]) (rest := [.ref (q 53)]) X hH (c_X12_isTray e2) kM_X12_449 kT_X12_isTray kN_X12 kC_X12_isTray hd_X12_isTray ⟨Nat.le_of_ble_eq_true rfl, Nat.le_of_ble_eq_true rfl⟩ rfl hl.1 (Nat.le_of_ble_eq_true rfl) (dk DX12_perform_0 2 rfl) ⟨Nat.zero_le _, Nat.zero_le _⟩) (fun r h1 H locs hp hH => ?_)
  obtain ⟨hr1, hr2⟩ := hp; rw [hr1]; rw [hr2] at hH; clear hr1 hr2
  refine lv_if_ne (tgt := 12) X.x X.b (dk DX12_perform_0 3 rfl) (by decide) (fun c4 => ?_) (fun c4 => ?_)
  · replace hF := if_f hF c4
    refine lv_aload_n X.x X.b (dk DX12_perform_0 6 rfl) rfl (lv_at hl 0 rfl) ?_
    refine og_getR (t := 0) OX12 X hq hH 46 (by decide) rfl kF_X12_84 (dk DX12_perform_0 7 rfl) ?_
    refine lv_iload_n X.x X.b (dk DX12_perform_0 8 rfl) rfl (lv_at hl 1 rfl) ?_
    obtain ⟨c5, hF⟩ := gd hF
    refine og_iald X hq hH 46 (by decide) rfl (inb_in c5) (dk DX12_perform_0 9 rfl) ?_
    refine lv_iconst (v := (-1)) X.x X.b (dk DX12_perform_0 10 rfl) (by decide) ?_
    refine lv_icmp_ne (tgt := 26) X.x X.b (dk DX12_perform_0 11 rfl) (by decide) (fun c6 => ?_) (fun c6 => ?_)
    · replace hF := if_f hF c6
      refine lv_iconst (v := 0) X.x X.b (dk DX12_perform_0 14 rfl) (by decide) ?_
      refine og_putI OX12 X hq hH 2 (by decide) rfl kF_X12_106 rfl rfl rfl (dk DX12_perform_0 15 rfl) (fun H locs hH => ?_)
      obtain ⟨t7, e8⟩ : ∃ y, y = oI st 2 0 := ⟨_, rfl⟩
      rw [← e8] at hH
      replace hF := bnd_e hF e8
      refine lv_aload_n X.x X.b (dk DX12_perform_0 16 rfl) rfl (lv_at hl 0 rfl) ?_
      refine og_getI OX12 X hq hH 2 (by decide) rfl kF_X12_106 (dk DX12_perform_0 17 rfl) ?_
      refine lv_if_le (tgt := 39) X.x X.b (dk DX12_perform_0 18 rfl) (by decide) (fun c9 => ?_) (fun c9 => ?_)
      · replace hF := if_t hF c9
        refine lv_iconst (v := 0) X.x X.b (dk DX12_perform_0 21 rfl) (by decide) ?_
        refine lv_istore_n (lv' := [(2, .int 0), (0, .ref (q 53)), (1, .int a0)]) X.x X.b (dk DX12_perform_0 22 rfl) rfl hl (by decide) rfl (fun ls hl => ?_)
        replace hl : lv_has ls 4 [(0, .ref (q 53)), (1, .int a0), (2, .int 0)] := lv_sub hl [1, 2, 0] rfl
        refine lv_iconst (v := 0) X.x X.b (dk DX12_perform_0 23 rfl) (by decide) ?_
        refine lv_istore_n (lv' := [(3, .int 0), (0, .ref (q 53)), (1, .int a0), (2, .int 0)]) X.x X.b (dk DX12_perform_0 24 rfl) rfl hl (by decide) rfl (fun ls hl => ?_)
        replace hl : lv_has ls 4 [(0, .ref (q 53)), (1, .int a0), (2, .int 0), (3, .int 0)] := lv_sub hl [1, 2, 3, 0] rfl
        obtain ⟨x17, e18, hF⟩ := bd hF
        replace hl : lv_has ls 4 [(0, .ref (q 53)), (1, .int a0), (2, .int 0), (3, .int 0)] := lv_sub hl [0, 1, 2, 3] rfl
        obtain ⟨t19, v20, v21⟩ := x17
        try dsimp only at hF
        refine w_X12_perform_43 hq X a0 _ _ e18 _ _ _ hH hl (fun H locs ls hH hl => ?_)
        try dsimp only at hH hl
        refine lv_iload_n X.x X.b (dk DX12_perform_0 42 rfl) rfl (lv_at hl 1 rfl) ?_
        refine lv_iconst (v := (-1)) X.x X.b (dk DX12_perform_0 43 rfl) (by decide) ?_
        refine lv_icmp_ne (tgt := 79) X.x X.b (dk DX12_perform_0 44 rfl) (by decide) (fun c22 => ?_) (fun c22 => ?_)
        · replace hF := if_f hF c22
          refine lv_iload_n X.x X.b (dk DX12_perform_0 47 rfl) rfl (lv_at hl 1 rfl) ?_
          cases sm hF
          exact mr_iret X hr hlk hH ⟨rfl, rfl⟩ (dk DX12_perform_0 48 rfl)
        · replace hF := if_t hF c22
          refine lv_iload_n X.x X.b (dk DX12_perform_0 45 rfl) rfl (lv_at hl 0 rfl) ?_
          refine lv_goto (tgt := 80) X.x X.b (dk DX12_perform_0 46 rfl) (by decide) ?_
          cases sm hF
          exact mr_iret X hr hlk hH ⟨rfl, rfl⟩ (dk DX12_perform_0 48 rfl)
      · replace hF := if_f hF c9
        refine lv_iconst (v := 0) X.x X.b (dk DX12_perform_0 19 rfl) (by decide) ?_
        cases sm hF
        exact mr_iret X hr hlk hH ⟨rfl, rfl⟩ (dk DX12_perform_0 20 rfl)
    · replace hF := if_t hF c6
      refine lv_iconst (v := 2) X.x X.b (dk DX12_perform_0 12 rfl) (by decide) ?_
      refine lv_goto (tgt := 27) X.x X.b (dk DX12_perform_0 13 rfl) (by decide) ?_
      refine og_putI OX12 X hq hH 2 (by decide) rfl kF_X12_106 rfl rfl rfl (dk DX12_perform_0 15 rfl) (fun H locs hH => ?_)
      obtain ⟨t23, e24⟩ : ∃ y, y = oI st 2 2 := ⟨_, rfl⟩
      rw [← e24] at hH
      replace hF := bnd_e hF e24
      refine lv_aload_n X.x X.b (dk DX12_perform_0 16 rfl) rfl (lv_at hl 0 rfl) ?_
      refine og_getI OX12 X hq hH 2 (by decide) rfl kF_X12_106 (dk DX12_perform_0 17 rfl) ?_
      refine lv_if_le (tgt := 39) X.x X.b (dk DX12_perform_0 18 rfl) (by decide) (fun c25 => ?_) (fun c25 => ?_)
      · replace hF := if_t hF c25
        refine lv_iconst (v := 0) X.x X.b (dk DX12_perform_0 21 rfl) (by decide) ?_
        refine lv_istore_n (lv' := [(2, .int 0), (0, .ref (q 53)), (1, .int a0)]) X.x X.b (dk DX12_perform_0 22 rfl) rfl hl (by decide) rfl (fun ls hl => ?_)
        replace hl : lv_has ls 4 [(0, .ref (q 53)), (1, .int a0), (2, .int 0)] := lv_sub hl [1, 2, 0] rfl
        refine lv_iconst (v := 0) X.x X.b (dk DX12_perform_0 23 rfl) (by decide) ?_
        refine lv_istore_n (lv' := [(3, .int 0), (0, .ref (q 53)), (1, .int a0), (2, .int 0)]) X.x X.b (dk DX12_perform_0 24 rfl) rfl hl (by decide) rfl (fun ls hl => ?_)
        replace hl : lv_has ls 4 [(0, .ref (q 53)), (1, .int a0), (2, .int 0), (3, .int 0)] := lv_sub hl [1, 2, 3, 0] rfl
        obtain ⟨x26, e27, hF⟩ := bd hF
        replace hl : lv_has ls 4 [(0, .ref (q 53)), (1, .int a0), (2, .int 0), (3, .int 0)] := lv_sub hl [0, 1, 2, 3] rfl
        obtain ⟨t28, v29, v30⟩ := x26
        try dsimp only at hF
        refine w_X12_perform_43 hq X a0 _ _ e27 _ _ _ hH hl (fun H locs ls hH hl => ?_)
        try dsimp only at hH hl
        refine lv_iload_n X.x X.b (dk DX12_perform_0 42 rfl) rfl (lv_at hl 1 rfl) ?_
        refine lv_iconst (v := (-1)) X.x X.b (dk DX12_perform_0 43 rfl) (by decide) ?_
        refine lv_icmp_ne (tgt := 79) X.x X.b (dk DX12_perform_0 44 rfl) (by decide) (fun c31 => ?_) (fun c31 => ?_)
        · replace hF := if_f hF c31
          refine lv_iload_n X.x X.b (dk DX12_perform_0 47 rfl) rfl (lv_at hl 1 rfl) ?_
          cases sm hF
          exact mr_iret X hr hlk hH ⟨rfl, rfl⟩ (dk DX12_perform_0 48 rfl)
        · replace hF := if_t hF c31
          refine lv_iload_n X.x X.b (dk DX12_perform_0 45 rfl) rfl (lv_at hl 0 rfl) ?_
          refine lv_goto (tgt := 80) X.x X.b (dk DX12_perform_0 46 rfl) (by decide) ?_
          cases sm hF
          exact mr_iret X hr hlk hH ⟨rfl, rfl⟩ (dk DX12_perform_0 48 rfl)
      · replace hF := if_f hF c25
        refine lv_iconst (v := 0) X.x X.b (dk DX12_perform_0 19 rfl) (by decide) ?_
        cases sm hF
        exact mr_iret X hr hlk hH ⟨rfl, rfl⟩ (dk DX12_perform_0 20 rfl)
  · replace hF := if_t hF c4
    refine lv_iconst (v := 1) X.x X.b (dk DX12_perform_0 4 rfl) (by decide) ?_
    refine lv_goto (tgt := 27) X.x X.b (dk DX12_perform_0 5 rfl) (by decide) ?_
    refine og_putI OX12 X hq hH 2 (by decide) rfl kF_X12_106 rfl rfl rfl (dk DX12_perform_0 15 rfl) (fun H locs hH => ?_)
    obtain ⟨t32, e33⟩ : ∃ y, y = oI st 2 1 := ⟨_, rfl⟩
    rw [← e33] at hH
    replace hF := bnd_e hF e33
    refine lv_aload_n X.x X.b (dk DX12_perform_0 16 rfl) rfl (lv_at hl 0 rfl) ?_
    refine og_getI OX12 X hq hH 2 (by decide) rfl kF_X12_106 (dk DX12_perform_0 17 rfl) ?_
    refine lv_if_le (tgt := 39) X.x X.b (dk DX12_perform_0 18 rfl) (by decide) (fun c34 => ?_) (fun c34 => ?_)
    · replace hF := if_t hF c34
      refine lv_iconst (v := 0) X.x X.b (dk DX12_perform_0 21 rfl) (by decide) ?_
      refine lv_istore_n (lv' := [(2, .int 0), (0, .ref (q 53)), (1, .int a0)]) X.x X.b (dk DX12_perform_0 22 rfl) rfl hl (by decide) rfl (fun ls hl => ?_)
      replace hl : lv_has ls 4 [(0, .ref (q 53)), (1, .int a0), (2, .int 0)] := lv_sub hl [1, 2, 0] rfl
      refine lv_iconst (v := 0) X.x X.b (dk DX12_perform_0 23 rfl) (by decide) ?_
      refine lv_istore_n (lv' := [(3, .int 0), (0, .ref (q 53)), (1, .int a0), (2, .int 0)]) X.x X.b (dk DX12_perform_0 24 rfl) rfl hl (by decide) rfl (fun ls hl => ?_)
      replace hl : lv_has ls 4 [(0, .ref (q 53)), (1, .int a0), (2, .int 0), (3, .int 0)] := lv_sub hl [1, 2, 3, 0] rfl
      obtain ⟨x35, e36, hF⟩ := bd hF
      replace hl : lv_has ls 4 [(0, .ref (q 53)), (1, .int a0), (2, .int 0), (3, .int 0)] := lv_sub hl [0, 1, 2, 3] rfl
      obtain ⟨t37, v38, v39⟩ := x35
      try dsimp only at hF
      refine w_X12_perform_43 hq X a0 _ _ e36 _ _ _ hH hl (fun H locs ls hH hl => ?_)
      try dsimp only at hH hl
      refine lv_iload_n X.x X.b (dk DX12_perform_0 42 rfl) rfl (lv_at hl 1 rfl) ?_
      refine lv_iconst (v := (-1)) X.x X.b (dk DX12_perform_0 43 rfl) (by decide) ?_
      refine lv_icmp_ne (tgt := 79) X.x X.b (dk DX12_perform_0 44 rfl) (by decide) (fun c40 => ?_) (fun c40 => ?_)
      · replace hF := if_f hF c40
        refine lv_iload_n X.x X.b (dk DX12_perform_0 47 rfl) rfl (lv_at hl 1 rfl) ?_
        cases sm hF
        exact mr_iret X hr hlk hH ⟨rfl, rfl⟩ (dk DX12_perform_0 48 rfl)
      · replace hF := if_t hF c40
        refine lv_iload_n X.x X.b (dk DX12_perform_0 45 rfl) rfl (lv_at hl 0 rfl) ?_
        refine lv_goto (tgt := 80) X.x X.b (dk DX12_perform_0 46 rfl) (by decide) ?_
        cases sm hF
        exact mr_iret X hr hlk hH ⟨rfl, rfl⟩ (dk DX12_perform_0 48 rfl)
    · replace hF := if_f hF c34
      refine lv_iconst (v := 0) X.x X.b (dk DX12_perform_0 19 rfl) (by decide) ?_
      cases sm hF
      exact mr_iret X hr hlk hH ⟨rfl, rfl⟩ (dk DX12_perform_0 20 rfl)
-- X12_tray
abbrev rm_X12_tray : Room := { frames := 2, cells := 0, slots := 0, locals := 45 }
theorem hd_X12_tray : mHd yX12_tray 3 := ⟨by decide +kernel, by decide +kernel, by decide +kernel⟩
theorem DX12_tray_0 : ∀ t ∈ ([(0, .aload_n 0, 1), (1, .iload_n 1, 1), (2, .invokestatic 449, 3), (5, .ifCond .ne 7, 3), (8, .iconst 1, 1), (9, .goto 32, 3), (12, .iload_n 2, 1), (13, .i2l, 1), (14, .lconst 0, 1), (15, .ldc2_w 455, 3), (18, .invokestatic 171, 3), (21, .ifCond .eq 15, 3), (24, .iload_n 3, 1), (25, .i2l, 1), (26, .lconst 0, 1), (27, .ldc2_w 457, 3), (30, .invokestatic 171, 3), (33, .ifCond .ne 7, 3), (36, .iconst 2, 1), (37, .goto 4, 3), (40, .iconst 0, 1), (41, .putfield 106, 3), (44, .aload_n 0, 1), (45, .getfield 106, 3), (48, .ifCond .le 4, 3), (51, .return_, 1), (52, .aload_n 0, 1), (53, .getfield 84, 3), (56, .iload_n 1, 1), (57, .iload_n 2, 1), (58, .iastore, 1), (59, .aload_n 0, 1), (60, .getfield 87, 3), (63, .iload_n 1, 1), (64, .iload_n 3, 1), (65, .iastore, 1), (66, .iconst 0, 1), (67, .istore 4, 2), (69, .iload 4, 2), (71, .bipush 40, 2), (73, .if_icmp .ge 22, 3), (76, .aload_n 0, 1), (77, .getfield 90, 3), (80, .bipush 40, 2), (82, .iload_n 1, 1), (83, .imul, 1), (84, .iload 4, 2), (86, .iadd, 1), (87, .lconst 0, 1), (88, .lastore, 1), (89, .iinc 4 1, 3), (92, .goto (-23), 3), (95, .return_, 1)] : List (Nat × Instr × Nat)), decode cX12_tray t.1 = .ok (t.2.1, t.2.2) := by decide +kernel
noncomputable def f_X12_tray_69 (b1 : Int32) : (OS × Int32) → Option ((OS × Int32) ⊕ (OS)) := fun z => match z with | (s_t, b4) => (if 40 ≤ b4 then some (.inr s_t) else if inb (((40 : Int32) * b1) + b4) 160 = true then bnd (oB s_t 48 (vp_updL (s_t.2.2.2 48) (((40 : Int32) * b1) + b4 : Int32).toNatClampNeg 0)) (fun t19 => bnd (b4 + 1 : Int32) (fun v21 => some (.inl ((t19, v21))))) else none)
noncomputable def f_X12_tray (st : OS) (a0 : Int32) (a1 : Int32) (a2 : Int32) : Option (OS) := (f_X12_isTray a0).bind (fun x1 => (if x1 = 0 then bnd (oI st 2 1) (fun t52 => (if (t52.1 2) ≤ 0 then if inb a0 4 = true then bnd (oA t52 46 (upd (t52.2.2.1 46) (a0 : Int32).toNatClampNeg a1)) (fun t56 => bnd (oA t56 47 (upd (t56.2.2.1 47) (a0 : Int32).toNatClampNeg a2)) (fun t58 => (lpv (f_X12_tray_69 a0) ((t58, 0))).bind (fun x60 => some x60))) else none else some t52)) else (f_X12_within ((a1 : Int32).toInt64) 0 3).bind (fun x5 => (if x5 = 0 then bnd (oI st 2 2) (fun t9 => (if (t9.1 2) ≤ 0 then if inb a0 4 = true then bnd (oA t9 46 (upd (t9.2.2.1 46) (a0 : Int32).toNatClampNeg a1)) (fun t13 => bnd (oA t13 47 (upd (t13.2.2.1 47) (a0 : Int32).toNatClampNeg a2)) (fun t15 => (lpv (f_X12_tray_69 a0) ((t15, 0))).bind (fun x23 => some x23))) else none else some t9)) else (f_X12_within ((a2 : Int32).toInt64) 0 40).bind (fun x26 => (if x26 = 0 then bnd (oI st 2 2) (fun t41 => (if (t41.1 2) ≤ 0 then if inb a0 4 = true then bnd (oA t41 46 (upd (t41.2.2.1 46) (a0 : Int32).toNatClampNeg a1)) (fun t45 => bnd (oA t45 47 (upd (t45.2.2.1 47) (a0 : Int32).toNatClampNeg a2)) (fun t47 => (lpv (f_X12_tray_69 a0) ((t47, 0))).bind (fun x49 => some x49))) else none else some t41)) else bnd (oI st 2 0) (fun t30 => (if (t30.1 2) ≤ 0 then if inb a0 4 = true then bnd (oA t30 46 (upd (t30.2.2.1 46) (a0 : Int32).toNatClampNeg a1)) (fun t34 => bnd (oA t34 47 (upd (t34.2.2.1 47) (a0 : Int32).toNatClampNeg a2)) (fun t36 => (lpv (f_X12_tray_69 a0) ((t36, 0))).bind (fun x38 => some x38))) else none else some t30))))))))
set_option maxHeartbeats 4000000 in
set_option maxRecDepth 100000 in
theorem w_X12_tray_69 {p : Program} {l : Launch} {e : Env} {s : State} {m : MethodId} {args : Array Value} {below : List Frame} {meth : Method} {c : Code} {Q : State → Prop} {G : mG} {h : mM} {q : Nat → Nat} (hq : oinj LX12 q) (X : mX G p m c cX12_tray 5 s args RX12) (b1 : Int32) : ∀ (z : OS × Int32) (r : OS), lpv (f_X12_tray_69 b1) z = some r → ∀ (H : Heap) (locs : List Loc) (ls : Array Slot), mH G (oset LX12 G q z.1 h) s.heap H locs → lv_has ls 5 [(0, .ref (q 53)), (1, .int b1), (4, .int z.2)] → (∀ (H : Heap) (locs : List Loc) (ls : Array Slot), mH G (oset LX12 G q r h) s.heap H locs → lv_has ls 5 [] → W p l e rm_X12_tray s m args below meth c H locs 0 0 Q (F0 m 95 ls [])) → W p l e rm_X12_tray s m args below meth c H locs 0 0 Q (F0 m 69 ls []) := by
  refine lpv_rec ?_
  intro z r x hF hx H locs ls hH hl K0
  obtain ⟨s_t, b4⟩ := z
  dsimp only [f_X12_tray_69] at hF
  try dsimp only at hH hl
  refine lv_iload X.x X.b (dk DX12_tray_0 38 rfl) (lv_at hl 2 rfl) ?_
  refine lv_bipush (v := 40) X.x X.b (dk DX12_tray_0 39 rfl) (by decide) ?_
  refine lv_icmp_ge (tgt := 95) X.x X.b (dk DX12_tray_0 40 rfl) (by decide) (fun c17 => ?_) (fun c17 => ?_)
  · replace hF := if_t hF c17
    have hr9 := lp_r hF hx
    subst hr9
    exact K0 _ _ _ hH (lv_sub hl [] rfl)
  · replace hF := if_f hF c17
    refine lv_aload_n X.x X.b (dk DX12_tray_0 41 rfl) rfl (lv_at hl 0 rfl) ?_
    refine og_getR (t := 1) OX12 X hq hH 48 (by decide) rfl kF_X12_90 (dk DX12_tray_0 42 rfl) ?_
    refine lv_bipush (v := 40) X.x X.b (dk DX12_tray_0 43 rfl) (by decide) ?_
    refine lv_iload_n X.x X.b (dk DX12_tray_0 44 rfl) rfl (lv_at hl 1 rfl) ?_
    refine lv_imul X.x X.b (dk DX12_tray_0 45 rfl) ?_
    refine lv_iload X.x X.b (dk DX12_tray_0 46 rfl) (lv_at hl 2 rfl) ?_
    refine lv_iadd X.x X.b (dk DX12_tray_0 47 rfl) ?_
    refine lv_lconst (v := 0) X.x X.b (dk DX12_tray_0 48 rfl) (by decide) ?_
    obtain ⟨c18, hF⟩ := gd hF
    refine og_last X hq hH 48 (by decide) rfl (inb_in c18) (dk DX12_tray_0 49 rfl) (fun H locs hH => ?_)
    obtain ⟨t19, e20⟩ : ∃ y, y = oB s_t 48 (vp_updL (s_t.2.2.2 48) (((40 : Int32) * b1) + b4 : Int32).toNatClampNeg 0) := ⟨_, rfl⟩
    rw [← e20] at hH
    replace hF := bnd_e hF e20
    obtain ⟨v21, e22⟩ : ∃ y : Int32, y = b4 + 1 := ⟨_, rfl⟩
    replace hF := bnd_e hF e22
    refine lv_iinc (v := v21) (lv' := [(4, .int v21), (0, .ref (q 53)), (1, .int b1)]) X.x X.b (dk DX12_tray_0 50 rfl) hl (k := 2) rfl (by rw [e22]; rfl) (by decide) rfl (fun ls hl => ?_)
    replace hl : lv_has ls 5 [(0, .ref (q 53)), (1, .int b1), (4, .int v21)] := lv_sub hl [1, 2, 0] rfl
    refine lv_goto (tgt := 69) X.x X.b (dk DX12_tray_0 51 rfl) (by decide) ?_
    exact (lp_l hF hx) _ _ _ hH (lv_sub hl [0, 1, 2] rfl) K0
set_option maxHeartbeats 4000000 in
set_option maxRecDepth 100000 in
theorem c_X12_tray {l : Launch} {G : mG} {h : mM} {q : Nat → Nat} (hq : oinj LX12 q) {st : OS} {a0 : Int32} {a1 : Int32} {a2 : Int32} {x : OS} (hF : f_X12_tray st a0 a1 a2 = some x) : cQ l G yX12_tray cX12_tray 5 none rm_X12_tray [.ref (q 53), .int a0, .int a1, .int a2] (oset LX12 G q st h) (mQv G (fun h1 => h1 = oset LX12 G q x h)) := by
  refine mp_of (by decide +kernel) (Nat.le_of_ble_eq_true rfl) ?_
  intro p e s m below meth c X hr hlk hH hname ls hl
  dsimp only [f_X12_tray] at hF
  replace hl : lv_has ls 5 [(0, .ref (q 53)), (1, .int a0), (2, .int a1), (3, .int a2)] := hl
  refine lv_aload_n X.x X.b (dk DX12_tray_0 0 rfl) rfl (lv_at hl 0 rfl) ?_
  refine lv_iload_n X.x X.b (dk DX12_tray_0 1 rfl) rfl (lv_at hl 1 rfl) ?_
  obtain ⟨x1, e2, hF⟩ := bd hF
  refine mr_ci0 hH ⟨rfl, rfl⟩ (mr_runS (As := [.int a0]) (rest := [.ref (q 53)]) X hH (c_X12_isTray e2) kM_X12_449 kT_X12_isTray kN_X12 kC_X12_isTray hd_X12_isTray ⟨Nat.le_of_ble_eq_true rfl, Nat.le_of_ble_eq_true rfl⟩ rfl hl.1 (Nat.le_of_ble_eq_true rfl) (dk DX12_tray_0 2 rfl) ⟨Nat.zero_le _, Nat.zero_le _⟩) (fun r h1 H locs hp hH => ?_)
  obtain ⟨hr1, hr2⟩ := hp; rw [hr1]; rw [hr2] at hH; clear hr1 hr2
  refine lv_if_ne (tgt := 12) X.x X.b (dk DX12_tray_0 3 rfl) (by decide) (fun c4 => ?_) (fun c4 => ?_)
  · replace hF := if_f hF c4
    refine lv_iload_n X.x X.b (dk DX12_tray_0 6 rfl) rfl (lv_at hl 2 rfl) ?_
    refine lv_i2l X.x X.b (dk DX12_tray_0 7 rfl) rfl ?_
    refine lv_lconst (v := 0) X.x X.b (dk DX12_tray_0 8 rfl) (by decide) ?_
    refine lv_ldc2 (v := 3) X.x X.b X.ow (X.ts _ kK_X12_455) (dk DX12_tray_0 9 rfl) ?_
    obtain ⟨x5, e6, hF⟩ := bd hF
    refine mr_ci0 hH ⟨rfl, rfl⟩ (mr_runS (As := [.long ((a1 : Int32).toInt64), .long 0, .long 3]) (rest := [.ref (q 53)]) X hH (c_X12_within e6) kM_X12_171 kT_X12_within kN_X12 kC_X12_within hd_X12_within ⟨Nat.le_of_ble_eq_true rfl, Nat.le_of_ble_eq_true rfl⟩ rfl hl.1 (Nat.le_of_ble_eq_true rfl) (dk DX12_tray_0 10 rfl) ⟨Nat.zero_le _, Nat.zero_le _⟩) (fun r h1 H locs hp hH => ?_)
    obtain ⟨hr1, hr2⟩ := hp; rw [hr1]; rw [hr2] at hH; clear hr1 hr2
    refine lv_if_eq (tgt := 36) X.x X.b (dk DX12_tray_0 11 rfl) (by decide) (fun c8 => ?_) (fun c8 => ?_)
    · replace hF := if_t hF c8
      refine lv_iconst (v := 2) X.x X.b (dk DX12_tray_0 18 rfl) (by decide) ?_
      refine lv_goto (tgt := 41) X.x X.b (dk DX12_tray_0 19 rfl) (by decide) ?_
      refine og_putI OX12 X hq hH 2 (by decide) rfl kF_X12_106 rfl rfl rfl (dk DX12_tray_0 21 rfl) (fun H locs hH => ?_)
      obtain ⟨t9, e10⟩ : ∃ y, y = oI st 2 2 := ⟨_, rfl⟩
      rw [← e10] at hH
      replace hF := bnd_e hF e10
      refine lv_aload_n X.x X.b (dk DX12_tray_0 22 rfl) rfl (lv_at hl 0 rfl) ?_
      refine og_getI OX12 X hq hH 2 (by decide) rfl kF_X12_106 (dk DX12_tray_0 23 rfl) ?_
      refine lv_if_le (tgt := 52) X.x X.b (dk DX12_tray_0 24 rfl) (by decide) (fun c11 => ?_) (fun c11 => ?_)
      · replace hF := if_t hF c11
        refine lv_aload_n X.x X.b (dk DX12_tray_0 26 rfl) rfl (lv_at hl 0 rfl) ?_
        refine og_getR (t := 0) OX12 X hq hH 46 (by decide) rfl kF_X12_84 (dk DX12_tray_0 27 rfl) ?_
        refine lv_iload_n X.x X.b (dk DX12_tray_0 28 rfl) rfl (lv_at hl 1 rfl) ?_
        refine lv_iload_n X.x X.b (dk DX12_tray_0 29 rfl) rfl (lv_at hl 2 rfl) ?_
        obtain ⟨c12, hF⟩ := gd hF
        refine og_iast X hq hH 46 (by decide) rfl (inb_in c12) (dk DX12_tray_0 30 rfl) (fun H locs hH => ?_)
        obtain ⟨t13, e14⟩ : ∃ y, y = oA t9 46 (upd (t9.2.2.1 46) (a0 : Int32).toNatClampNeg a1) := ⟨_, rfl⟩
        rw [← e14] at hH
        replace hF := bnd_e hF e14
        refine lv_aload_n X.x X.b (dk DX12_tray_0 31 rfl) rfl (lv_at hl 0 rfl) ?_
        refine og_getR (t := 0) OX12 X hq hH 47 (by decide) rfl kF_X12_87 (dk DX12_tray_0 32 rfl) ?_
        refine lv_iload_n X.x X.b (dk DX12_tray_0 33 rfl) rfl (lv_at hl 1 rfl) ?_
        refine lv_iload_n X.x X.b (dk DX12_tray_0 34 rfl) rfl (lv_at hl 3 rfl) ?_
        refine og_iast X hq hH 47 (by decide) rfl (inb_in c12) (dk DX12_tray_0 35 rfl) (fun H locs hH => ?_)
        obtain ⟨t15, e16⟩ : ∃ y, y = oA t13 47 (upd (t13.2.2.1 47) (a0 : Int32).toNatClampNeg a2) := ⟨_, rfl⟩
        rw [← e16] at hH
        replace hF := bnd_e hF e16
        refine lv_iconst (v := 0) X.x X.b (dk DX12_tray_0 36 rfl) (by decide) ?_
        refine lv_istore (lv' := [(4, .int 0), (0, .ref (q 53)), (1, .int a0), (2, .int a1), (3, .int a2)]) X.x X.b (dk DX12_tray_0 37 rfl) hl (by decide) rfl (fun ls hl => ?_)
        replace hl : lv_has ls 5 [(0, .ref (q 53)), (1, .int a0), (4, .int 0)] := lv_sub hl [1, 2, 0] rfl
        obtain ⟨x23, e24, hF⟩ := bd hF
        replace hl : lv_has ls 5 [(0, .ref (q 53)), (1, .int a0), (4, .int 0)] := lv_sub hl [0, 1, 2] rfl
        refine w_X12_tray_69 hq X a0 _ _ e24 _ _ _ hH hl (fun H locs ls hH hl => ?_)
        cases sm hF
        exact mr_vret X hr hlk hH rfl (dk DX12_tray_0 52 rfl)
      · replace hF := if_f hF c11
        cases sm hF
        exact mr_vret X hr hlk hH rfl (dk DX12_tray_0 25 rfl)
    · replace hF := if_f hF c8
      refine lv_iload_n X.x X.b (dk DX12_tray_0 12 rfl) rfl (lv_at hl 3 rfl) ?_
      refine lv_i2l X.x X.b (dk DX12_tray_0 13 rfl) rfl ?_
      refine lv_lconst (v := 0) X.x X.b (dk DX12_tray_0 14 rfl) (by decide) ?_
      refine lv_ldc2 (v := 40) X.x X.b X.ow (X.ts _ kK_X12_457) (dk DX12_tray_0 15 rfl) ?_
      obtain ⟨x26, e27, hF⟩ := bd hF
      refine mr_ci0 hH ⟨rfl, rfl⟩ (mr_runS (As := [.long ((a2 : Int32).toInt64), .long 0, .long 40]) (rest := [.ref (q 53)]) X hH (c_X12_within e27) kM_X12_171 kT_X12_within kN_X12 kC_X12_within hd_X12_within ⟨Nat.le_of_ble_eq_true rfl, Nat.le_of_ble_eq_true rfl⟩ rfl hl.1 (Nat.le_of_ble_eq_true rfl) (dk DX12_tray_0 16 rfl) ⟨Nat.zero_le _, Nat.zero_le _⟩) (fun r h1 H locs hp hH => ?_)
      obtain ⟨hr1, hr2⟩ := hp; rw [hr1]; rw [hr2] at hH; clear hr1 hr2
      refine lv_if_ne (tgt := 40) X.x X.b (dk DX12_tray_0 17 rfl) (by decide) (fun c29 => ?_) (fun c29 => ?_)
      · replace hF := if_f hF c29
        refine lv_iconst (v := 0) X.x X.b (dk DX12_tray_0 20 rfl) (by decide) ?_
        refine og_putI OX12 X hq hH 2 (by decide) rfl kF_X12_106 rfl rfl rfl (dk DX12_tray_0 21 rfl) (fun H locs hH => ?_)
        obtain ⟨t30, e31⟩ : ∃ y, y = oI st 2 0 := ⟨_, rfl⟩
        rw [← e31] at hH
        replace hF := bnd_e hF e31
        refine lv_aload_n X.x X.b (dk DX12_tray_0 22 rfl) rfl (lv_at hl 0 rfl) ?_
        refine og_getI OX12 X hq hH 2 (by decide) rfl kF_X12_106 (dk DX12_tray_0 23 rfl) ?_
        refine lv_if_le (tgt := 52) X.x X.b (dk DX12_tray_0 24 rfl) (by decide) (fun c32 => ?_) (fun c32 => ?_)
        · replace hF := if_t hF c32
          refine lv_aload_n X.x X.b (dk DX12_tray_0 26 rfl) rfl (lv_at hl 0 rfl) ?_
          refine og_getR (t := 0) OX12 X hq hH 46 (by decide) rfl kF_X12_84 (dk DX12_tray_0 27 rfl) ?_
          refine lv_iload_n X.x X.b (dk DX12_tray_0 28 rfl) rfl (lv_at hl 1 rfl) ?_
          refine lv_iload_n X.x X.b (dk DX12_tray_0 29 rfl) rfl (lv_at hl 2 rfl) ?_
          obtain ⟨c33, hF⟩ := gd hF
          refine og_iast X hq hH 46 (by decide) rfl (inb_in c33) (dk DX12_tray_0 30 rfl) (fun H locs hH => ?_)
          obtain ⟨t34, e35⟩ : ∃ y, y = oA t30 46 (upd (t30.2.2.1 46) (a0 : Int32).toNatClampNeg a1) := ⟨_, rfl⟩
          rw [← e35] at hH
          replace hF := bnd_e hF e35
          refine lv_aload_n X.x X.b (dk DX12_tray_0 31 rfl) rfl (lv_at hl 0 rfl) ?_
          refine og_getR (t := 0) OX12 X hq hH 47 (by decide) rfl kF_X12_87 (dk DX12_tray_0 32 rfl) ?_
          refine lv_iload_n X.x X.b (dk DX12_tray_0 33 rfl) rfl (lv_at hl 1 rfl) ?_
          refine lv_iload_n X.x X.b (dk DX12_tray_0 34 rfl) rfl (lv_at hl 3 rfl) ?_
          refine og_iast X hq hH 47 (by decide) rfl (inb_in c33) (dk DX12_tray_0 35 rfl) (fun H locs hH => ?_)
          obtain ⟨t36, e37⟩ : ∃ y, y = oA t34 47 (upd (t34.2.2.1 47) (a0 : Int32).toNatClampNeg a2) := ⟨_, rfl⟩
          rw [← e37] at hH
          replace hF := bnd_e hF e37
          refine lv_iconst (v := 0) X.x X.b (dk DX12_tray_0 36 rfl) (by decide) ?_
          refine lv_istore (lv' := [(4, .int 0), (0, .ref (q 53)), (1, .int a0), (2, .int a1), (3, .int a2)]) X.x X.b (dk DX12_tray_0 37 rfl) hl (by decide) rfl (fun ls hl => ?_)
          replace hl : lv_has ls 5 [(0, .ref (q 53)), (1, .int a0), (4, .int 0)] := lv_sub hl [1, 2, 0] rfl
          obtain ⟨x38, e39, hF⟩ := bd hF
          replace hl : lv_has ls 5 [(0, .ref (q 53)), (1, .int a0), (4, .int 0)] := lv_sub hl [0, 1, 2] rfl
          refine w_X12_tray_69 hq X a0 _ _ e39 _ _ _ hH hl (fun H locs ls hH hl => ?_)
          cases sm hF
          exact mr_vret X hr hlk hH rfl (dk DX12_tray_0 52 rfl)
        · replace hF := if_f hF c32
          cases sm hF
          exact mr_vret X hr hlk hH rfl (dk DX12_tray_0 25 rfl)
      · replace hF := if_t hF c29
        refine lv_iconst (v := 2) X.x X.b (dk DX12_tray_0 18 rfl) (by decide) ?_
        refine lv_goto (tgt := 41) X.x X.b (dk DX12_tray_0 19 rfl) (by decide) ?_
        refine og_putI OX12 X hq hH 2 (by decide) rfl kF_X12_106 rfl rfl rfl (dk DX12_tray_0 21 rfl) (fun H locs hH => ?_)
        obtain ⟨t41, e42⟩ : ∃ y, y = oI st 2 2 := ⟨_, rfl⟩
        rw [← e42] at hH
        replace hF := bnd_e hF e42
        refine lv_aload_n X.x X.b (dk DX12_tray_0 22 rfl) rfl (lv_at hl 0 rfl) ?_
        refine og_getI OX12 X hq hH 2 (by decide) rfl kF_X12_106 (dk DX12_tray_0 23 rfl) ?_
        refine lv_if_le (tgt := 52) X.x X.b (dk DX12_tray_0 24 rfl) (by decide) (fun c43 => ?_) (fun c43 => ?_)
        · replace hF := if_t hF c43
          refine lv_aload_n X.x X.b (dk DX12_tray_0 26 rfl) rfl (lv_at hl 0 rfl) ?_
          refine og_getR (t := 0) OX12 X hq hH 46 (by decide) rfl kF_X12_84 (dk DX12_tray_0 27 rfl) ?_
          refine lv_iload_n X.x X.b (dk DX12_tray_0 28 rfl) rfl (lv_at hl 1 rfl) ?_
          refine lv_iload_n X.x X.b (dk DX12_tray_0 29 rfl) rfl (lv_at hl 2 rfl) ?_
          obtain ⟨c44, hF⟩ := gd hF
          refine og_iast X hq hH 46 (by decide) rfl (inb_in c44) (dk DX12_tray_0 30 rfl) (fun H locs hH => ?_)
          obtain ⟨t45, e46⟩ : ∃ y, y = oA t41 46 (upd (t41.2.2.1 46) (a0 : Int32).toNatClampNeg a1) := ⟨_, rfl⟩
          rw [← e46] at hH
          replace hF := bnd_e hF e46
          refine lv_aload_n X.x X.b (dk DX12_tray_0 31 rfl) rfl (lv_at hl 0 rfl) ?_
          refine og_getR (t := 0) OX12 X hq hH 47 (by decide) rfl kF_X12_87 (dk DX12_tray_0 32 rfl) ?_
          refine lv_iload_n X.x X.b (dk DX12_tray_0 33 rfl) rfl (lv_at hl 1 rfl) ?_
          refine lv_iload_n X.x X.b (dk DX12_tray_0 34 rfl) rfl (lv_at hl 3 rfl) ?_
          refine og_iast X hq hH 47 (by decide) rfl (inb_in c44) (dk DX12_tray_0 35 rfl) (fun H locs hH => ?_)
          obtain ⟨t47, e48⟩ : ∃ y, y = oA t45 47 (upd (t45.2.2.1 47) (a0 : Int32).toNatClampNeg a2) := ⟨_, rfl⟩
          rw [← e48] at hH
          replace hF := bnd_e hF e48
          refine lv_iconst (v := 0) X.x X.b (dk DX12_tray_0 36 rfl) (by decide) ?_
          refine lv_istore (lv' := [(4, .int 0), (0, .ref (q 53)), (1, .int a0), (2, .int a1), (3, .int a2)]) X.x X.b (dk DX12_tray_0 37 rfl) hl (by decide) rfl (fun ls hl => ?_)
          replace hl : lv_has ls 5 [(0, .ref (q 53)), (1, .int a0), (4, .int 0)] := lv_sub hl [1, 2, 0] rfl
          obtain ⟨x49, e50, hF⟩ := bd hF
          replace hl : lv_has ls 5 [(0, .ref (q 53)), (1, .int a0), (4, .int 0)] := lv_sub hl [0, 1, 2] rfl
          refine w_X12_tray_69 hq X a0 _ _ e50 _ _ _ hH hl (fun H locs ls hH hl => ?_)
          cases sm hF
          exact mr_vret X hr hlk hH rfl (dk DX12_tray_0 52 rfl)
        · replace hF := if_f hF c43
          cases sm hF
          exact mr_vret X hr hlk hH rfl (dk DX12_tray_0 25 rfl)
  · replace hF := if_t hF c4
    refine lv_iconst (v := 1) X.x X.b (dk DX12_tray_0 4 rfl) (by decide) ?_
    refine lv_goto (tgt := 41) X.x X.b (dk DX12_tray_0 5 rfl) (by decide) ?_
    refine og_putI OX12 X hq hH 2 (by decide) rfl kF_X12_106 rfl rfl rfl (dk DX12_tray_0 21 rfl) (fun H locs hH => ?_)
    obtain ⟨t52, e53⟩ : ∃ y, y = oI st 2 1 := ⟨_, rfl⟩
    rw [← e53] at hH
    replace hF := bnd_e hF e53
    refine lv_aload_n X.x X.b (dk DX12_tray_0 22 rfl) rfl (lv_at hl 0 rfl) ?_
    refine og_getI OX12 X hq hH 2 (by decide) rfl kF_X12_106 (dk DX12_tray_0 23 rfl) ?_
    refine lv_if_le (tgt := 52) X.x X.b (dk DX12_tray_0 24 rfl) (by decide) (fun c54 => ?_) (fun c54 => ?_)
    · replace hF := if_t hF c54
      refine lv_aload_n X.x X.b (dk DX12_tray_0 26 rfl) rfl (lv_at hl 0 rfl) ?_
      refine og_getR (t := 0) OX12 X hq hH 46 (by decide) rfl kF_X12_84 (dk DX12_tray_0 27 rfl) ?_
      refine lv_iload_n X.x X.b (dk DX12_tray_0 28 rfl) rfl (lv_at hl 1 rfl) ?_
      refine lv_iload_n X.x X.b (dk DX12_tray_0 29 rfl) rfl (lv_at hl 2 rfl) ?_
      obtain ⟨c55, hF⟩ := gd hF
      refine og_iast X hq hH 46 (by decide) rfl (inb_in c55) (dk DX12_tray_0 30 rfl) (fun H locs hH => ?_)
      obtain ⟨t56, e57⟩ : ∃ y, y = oA t52 46 (upd (t52.2.2.1 46) (a0 : Int32).toNatClampNeg a1) := ⟨_, rfl⟩
      rw [← e57] at hH
      replace hF := bnd_e hF e57
      refine lv_aload_n X.x X.b (dk DX12_tray_0 31 rfl) rfl (lv_at hl 0 rfl) ?_
      refine og_getR (t := 0) OX12 X hq hH 47 (by decide) rfl kF_X12_87 (dk DX12_tray_0 32 rfl) ?_
      refine lv_iload_n X.x X.b (dk DX12_tray_0 33 rfl) rfl (lv_at hl 1 rfl) ?_
      refine lv_iload_n X.x X.b (dk DX12_tray_0 34 rfl) rfl (lv_at hl 3 rfl) ?_
      refine og_iast X hq hH 47 (by decide) rfl (inb_in c55) (dk DX12_tray_0 35 rfl) (fun H locs hH => ?_)
      obtain ⟨t58, e59⟩ : ∃ y, y = oA t56 47 (upd (t56.2.2.1 47) (a0 : Int32).toNatClampNeg a2) := ⟨_, rfl⟩
      rw [← e59] at hH
      replace hF := bnd_e hF e59
      refine lv_iconst (v := 0) X.x X.b (dk DX12_tray_0 36 rfl) (by decide) ?_
      refine lv_istore (lv' := [(4, .int 0), (0, .ref (q 53)), (1, .int a0), (2, .int a1), (3, .int a2)]) X.x X.b (dk DX12_tray_0 37 rfl) hl (by decide) rfl (fun ls hl => ?_)
      replace hl : lv_has ls 5 [(0, .ref (q 53)), (1, .int a0), (4, .int 0)] := lv_sub hl [1, 2, 0] rfl
      obtain ⟨x60, e61, hF⟩ := bd hF
      replace hl : lv_has ls 5 [(0, .ref (q 53)), (1, .int a0), (4, .int 0)] := lv_sub hl [0, 1, 2] rfl
      refine w_X12_tray_69 hq X a0 _ _ e61 _ _ _ hH hl (fun H locs ls hH hl => ?_)
      cases sm hF
      exact mr_vret X hr hlk hH rfl (dk DX12_tray_0 52 rfl)
    · replace hF := if_f hF c54
      cases sm hF
      exact mr_vret X hr hlk hH rfl (dk DX12_tray_0 25 rfl)
-- X12_cut
abbrev rm_X12_cut : Room := { frames := 0, cells := 0, slots := 0, locals := 0 }
theorem hd_X12_cut : mHd yX12_cut 3 := ⟨by decide +kernel, by decide +kernel, by decide +kernel⟩
theorem DX12_cut_0 : ∀ t ∈ ([(0, .bipush 64, 2), (2, .bipush 8, 2), (4, .aload_n 0, 1), (5, .getfield 84, 3), (8, .iload_n 1, 1), (9, .iaload, 1), (10, .ishl, 1), (11, .isub, 1), (12, .istore 5, 2), (14, .aload_n 0, 1), (15, .getfield 90, 3), (18, .bipush 40, 2), (20, .iload_n 1, 1), (21, .imul, 1), (22, .iload_n 2, 1), (23, .iadd, 1), (24, .lload_n 3, 1), (25, .iload 5, 2), (27, .lshl, 1), (28, .iload 5, 2), (30, .lshr, 1), (31, .lastore, 1), (32, .aload_n 0, 1), (33, .getfield 90, 3), (36, .bipush 40, 2), (38, .iload_n 1, 1), (39, .imul, 1), (40, .iload_n 2, 1), (41, .iadd, 1), (42, .laload, 1), (43, .lreturn, 1)] : List (Nat × Instr × Nat)), decode cX12_cut t.1 = .ok (t.2.1, t.2.2) := by decide +kernel
noncomputable def f_X12_cut (st : OS) (a0 : Int32) (a1 : Int32) (a2 : Int64) : Option (Int64 × OS) := if inb a0 4 = true then bnd ((64 : Int32) - ((8 : Int32) <<< ((st.2.2.1 46 (a0 : Int32).toNatClampNeg) &&& 31)) : Int32) (fun v2 => if inb (((40 : Int32) * a0) + a1) 160 = true then bnd (oB st 48 (vp_updL (st.2.2.2 48) (((40 : Int32) * a0) + a1 : Int32).toNatClampNeg (((((a2 : Int64)) <<< ((v2 : Int32).toInt64 &&& 63) : Int64)) >>> ((v2 : Int32).toInt64 &&& 63)))) (fun t5 => some ((t5.2.2.2 48 (((40 : Int32) * a0) + a1 : Int32).toNatClampNeg, t5))) else none) else none
set_option maxHeartbeats 4000000 in
set_option maxRecDepth 100000 in
theorem c_X12_cut {l : Launch} {G : mG} {h : mM} {q : Nat → Nat} (hq : oinj LX12 q) {st : OS} {a0 : Int32} {a1 : Int32} {a2 : Int64} {x : Int64 × OS} (hF : f_X12_cut st a0 a1 a2 = some x) : cQ l G yX12_cut cX12_cut 6 (some FieldType.long) rm_X12_cut [.ref (q 53), .int a0, .int a1, .long a2] (oset LX12 G q st h) (mQl G (fun r h1 => r = x.1 ∧ h1 = oset LX12 G q x.2 h)) := by
  refine mp_of (by decide +kernel) (Nat.le_of_ble_eq_true rfl) ?_
  intro p e s m below meth c X hr hlk hH hname ls hl
  dsimp only [f_X12_cut] at hF
  replace hl : lv_has ls 6 [(0, .ref (q 53)), (1, .int a0), (2, .int a1), (3, .long a2)] := hl
  refine lv_bipush (v := 64) X.x X.b (dk DX12_cut_0 0 rfl) (by decide) ?_
  refine lv_bipush (v := 8) X.x X.b (dk DX12_cut_0 1 rfl) (by decide) ?_
  refine lv_aload_n X.x X.b (dk DX12_cut_0 2 rfl) rfl (lv_at hl 0 rfl) ?_
  refine og_getR (t := 0) OX12 X hq hH 46 (by decide) rfl kF_X12_84 (dk DX12_cut_0 3 rfl) ?_
  refine lv_iload_n X.x X.b (dk DX12_cut_0 4 rfl) rfl (lv_at hl 1 rfl) ?_
  obtain ⟨c1, hF⟩ := gd hF
  refine og_iald X hq hH 46 (by decide) rfl (inb_in c1) (dk DX12_cut_0 5 rfl) ?_
  refine lv_ishl X.x X.b (dk DX12_cut_0 6 rfl) ?_
  refine lv_isub X.x X.b (dk DX12_cut_0 7 rfl) ?_
  refine lv_topi (fun v2 e3 => ?_)
  replace hF := bnd_e hF e3
  refine lv_istore (lv' := [(5, .int v2), (0, .ref (q 53)), (1, .int a0), (2, .int a1), (3, .long a2)]) X.x X.b (dk DX12_cut_0 8 rfl) hl (by decide) rfl (fun ls hl => ?_)
  replace hl : lv_has ls 6 [(0, .ref (q 53)), (1, .int a0), (2, .int a1), (3, .long a2), (5, .int v2)] := lv_sub hl [1, 2, 3, 4, 0] rfl
  refine lv_aload_n X.x X.b (dk DX12_cut_0 9 rfl) rfl (lv_at hl 0 rfl) ?_
  refine og_getR (t := 1) OX12 X hq hH 48 (by decide) rfl kF_X12_90 (dk DX12_cut_0 10 rfl) ?_
  refine lv_bipush (v := 40) X.x X.b (dk DX12_cut_0 11 rfl) (by decide) ?_
  refine lv_iload_n X.x X.b (dk DX12_cut_0 12 rfl) rfl (lv_at hl 1 rfl) ?_
  refine lv_imul X.x X.b (dk DX12_cut_0 13 rfl) ?_
  refine lv_iload_n X.x X.b (dk DX12_cut_0 14 rfl) rfl (lv_at hl 2 rfl) ?_
  refine lv_iadd X.x X.b (dk DX12_cut_0 15 rfl) ?_
  refine lv_lload_n X.x X.b (dk DX12_cut_0 16 rfl) rfl (lv_at hl 3 rfl) ?_
  refine lv_iload X.x X.b (dk DX12_cut_0 17 rfl) (lv_at hl 4 rfl) ?_
  refine lv_lshl X.x X.b (dk DX12_cut_0 18 rfl) rfl ?_
  refine lv_iload X.x X.b (dk DX12_cut_0 19 rfl) (lv_at hl 4 rfl) ?_
  refine lv_lshr X.x X.b (dk DX12_cut_0 20 rfl) rfl ?_
  obtain ⟨c4, hF⟩ := gd hF
  refine og_last X hq hH 48 (by decide) rfl (inb_in c4) (dk DX12_cut_0 21 rfl) (fun H locs hH => ?_)
  obtain ⟨t5, e6⟩ : ∃ y, y = oB st 48 (vp_updL (st.2.2.2 48) (((40 : Int32) * a0) + a1 : Int32).toNatClampNeg (((((a2 : Int64)) <<< ((v2 : Int32).toInt64 &&& 63) : Int64)) >>> ((v2 : Int32).toInt64 &&& 63))) := ⟨_, rfl⟩
  rw [← e6] at hH
  replace hF := bnd_e hF e6
  refine lv_aload_n X.x X.b (dk DX12_cut_0 22 rfl) rfl (lv_at hl 0 rfl) ?_
  refine og_getR (t := 1) OX12 X hq hH 48 (by decide) rfl kF_X12_90 (dk DX12_cut_0 23 rfl) ?_
  refine lv_bipush (v := 40) X.x X.b (dk DX12_cut_0 24 rfl) (by decide) ?_
  refine lv_iload_n X.x X.b (dk DX12_cut_0 25 rfl) rfl (lv_at hl 1 rfl) ?_
  refine lv_imul X.x X.b (dk DX12_cut_0 26 rfl) ?_
  refine lv_iload_n X.x X.b (dk DX12_cut_0 27 rfl) rfl (lv_at hl 2 rfl) ?_
  refine lv_iadd X.x X.b (dk DX12_cut_0 28 rfl) ?_
  refine og_lald X hq hH 48 (by decide) rfl (inb_in c4) (dk DX12_cut_0 29 rfl) ?_
  cases sm hF
  exact mr_lret X hr hlk hH ⟨rfl, rfl⟩ (dk DX12_cut_0 30 rfl)
-- X12_write
abbrev rm_X12_write : Room := { frames := 2, cells := 0, slots := 0, locals := 45 }
theorem hd_X12_write : mHd yX12_write 3 := ⟨by decide +kernel, by decide +kernel, by decide +kernel⟩
theorem DX12_write_0 : ∀ t ∈ ([(0, .aload_n 0, 1), (1, .iconst 0, 1), (2, .putfield 106, 3), (5, .iload_n 1, 1), (6, .invokestatic 449, 3), (9, .ifCond .ne 10, 3), (12, .aload_n 0, 1), (13, .iconst 1, 1), (14, .invokevirtual 236, 3), (17, .i2l, 1), (18, .lreturn, 1), (19, .aload_n 0, 1), (20, .getfield 84, 3), (23, .iload_n 1, 1), (24, .iaload, 1), (25, .iconst (-1), 1), (26, .if_icmp .ne 10, 3), (29, .aload_n 0, 1), (30, .iconst 2, 1), (31, .invokevirtual 236, 3), (34, .i2l, 1), (35, .lreturn, 1), (36, .iload_n 2, 1), (37, .i2l, 1), (38, .lconst 0, 1), (39, .aload_n 0, 1), (40, .getfield 87, 3), (43, .iload_n 1, 1), (44, .iaload, 1), (45, .iconst 1, 1), (46, .isub, 1), (47, .i2l, 1), (48, .invokestatic 171, 3), (51, .ifCond .eq 13, 3), (54, .aload_n 0, 1), (55, .iload_n 1, 1), (56, .iload_n 2, 1), (57, .lload_n 3, 1), (58, .invokevirtual 459, 3), (61, .goto 9, 3), (64, .aload_n 0, 1), (65, .iconst 3, 1), (66, .invokevirtual 236, 3), (69, .i2l, 1), (70, .lreturn, 1)] : List (Nat × Instr × Nat)), decode cX12_write t.1 = .ok (t.2.1, t.2.2) := by decide +kernel
noncomputable def f_X12_write (st : OS) (a0 : Int32) (a1 : Int32) (a2 : Int64) : Option (Int64 × OS) := bnd (oI st 2 0) (fun t1 => (f_X12_isTray a0).bind (fun x3 => (if x3 = 0 then (f_X12_fails t1 1).bind (fun x25 => match x25 with | (v27, t28) => some (((v27 : Int32).toInt64, t28))) else if inb a0 4 = true then (if (t1.2.2.1 46 (a0 : Int32).toNatClampNeg) = ((-1)) then (f_X12_fails t1 2).bind (fun x21 => match x21 with | (v23, t24) => some (((v23 : Int32).toInt64, t24))) else (f_X12_within ((a1 : Int32).toInt64) 0 (((t1.2.2.1 47 (a0 : Int32).toNatClampNeg) - 1 : Int32).toInt64)).bind (fun x9 => (if x9 = 0 then (f_X12_fails t1 3).bind (fun x13 => match x13 with | (v15, t16) => some (((v15 : Int32).toInt64, t16))) else (f_X12_cut t1 a0 a1 a2).bind (fun x17 => match x17 with | (v19, t20) => some ((v19, t20)))))) else none)))
set_option maxHeartbeats 4000000 in
set_option maxRecDepth 100000 in
theorem c_X12_write {l : Launch} {G : mG} {h : mM} {q : Nat → Nat} (hq : oinj LX12 q) {st : OS} {a0 : Int32} {a1 : Int32} {a2 : Int64} {x : Int64 × OS} (hF : f_X12_write st a0 a1 a2 = some x) : cQ l G yX12_write cX12_write 5 (some FieldType.long) rm_X12_write [.ref (q 53), .int a0, .int a1, .long a2] (oset LX12 G q st h) (mQl G (fun r h1 => r = x.1 ∧ h1 = oset LX12 G q x.2 h)) := by
  refine mp_of (by decide +kernel) (Nat.le_of_ble_eq_true rfl) ?_
  intro p e s m below meth c X hr hlk hH hname ls hl
  dsimp only [f_X12_write] at hF
  replace hl : lv_has ls 5 [(0, .ref (q 53)), (1, .int a0), (2, .int a1), (3, .long a2)] := hl
  refine lv_aload_n X.x X.b (dk DX12_write_0 0 rfl) rfl (lv_at hl 0 rfl) ?_
  refine lv_iconst (v := 0) X.x X.b (dk DX12_write_0 1 rfl) (by decide) ?_
  refine og_putI OX12 X hq hH 2 (by decide) rfl kF_X12_106 rfl rfl rfl (dk DX12_write_0 2 rfl) (fun H locs hH => ?_)
  obtain ⟨t1, e2⟩ : ∃ y, y = oI st 2 0 := ⟨_, rfl⟩
  rw [← e2] at hH
  replace hF := bnd_e hF e2
  refine lv_iload_n X.x X.b (dk DX12_write_0 3 rfl) rfl (lv_at hl 1 rfl) ?_
  obtain ⟨x3, e4, hF⟩ := bd hF
  refine mr_ci0 hH ⟨rfl, rfl⟩ (mr_runS (As := [.int a0]) (rest := []) X hH (c_X12_isTray e4) kM_X12_449 kT_X12_isTray kN_X12 kC_X12_isTray hd_X12_isTray ⟨Nat.le_of_ble_eq_true rfl, Nat.le_of_ble_eq_true rfl⟩ rfl hl.1 (Nat.le_of_ble_eq_true rfl) (dk DX12_write_0 4 rfl) ⟨Nat.zero_le _, Nat.zero_le _⟩) (fun r h1 H locs hp hH => ?_)
  obtain ⟨hr1, hr2⟩ := hp; rw [hr1]; rw [hr2] at hH; clear hr1 hr2
  refine lv_if_ne (tgt := 19) X.x X.b (dk DX12_write_0 5 rfl) (by decide) (fun c6 => ?_) (fun c6 => ?_)
  · replace hF := if_f hF c6
    refine lv_aload_n X.x X.b (dk DX12_write_0 11 rfl) rfl (lv_at hl 0 rfl) ?_
    refine og_getR (t := 0) OX12 X hq hH 46 (by decide) rfl kF_X12_84 (dk DX12_write_0 12 rfl) ?_
    refine lv_iload_n X.x X.b (dk DX12_write_0 13 rfl) rfl (lv_at hl 1 rfl) ?_
    obtain ⟨c7, hF⟩ := gd hF
    refine og_iald X hq hH 46 (by decide) rfl (inb_in c7) (dk DX12_write_0 14 rfl) ?_
    refine lv_iconst (v := (-1)) X.x X.b (dk DX12_write_0 15 rfl) (by decide) ?_
    refine lv_icmp_ne (tgt := 36) X.x X.b (dk DX12_write_0 16 rfl) (by decide) (fun c8 => ?_) (fun c8 => ?_)
    · replace hF := if_f hF c8
      refine lv_iload_n X.x X.b (dk DX12_write_0 22 rfl) rfl (lv_at hl 2 rfl) ?_
      refine lv_i2l X.x X.b (dk DX12_write_0 23 rfl) rfl ?_
      refine lv_lconst (v := 0) X.x X.b (dk DX12_write_0 24 rfl) (by decide) ?_
      refine lv_aload_n X.x X.b (dk DX12_write_0 25 rfl) rfl (lv_at hl 0 rfl) ?_
      refine og_getR (t := 0) OX12 X hq hH 47 (by decide) rfl kF_X12_87 (dk DX12_write_0 26 rfl) ?_
      refine lv_iload_n X.x X.b (dk DX12_write_0 27 rfl) rfl (lv_at hl 1 rfl) ?_
      refine og_iald X hq hH 47 (by decide) rfl (inb_in c7) (dk DX12_write_0 28 rfl) ?_
      refine lv_iconst (v := 1) X.x X.b (dk DX12_write_0 29 rfl) (by decide) ?_
      refine lv_isub X.x X.b (dk DX12_write_0 30 rfl) ?_
      refine lv_i2l X.x X.b (dk DX12_write_0 31 rfl) rfl ?_
      obtain ⟨x9, e10, hF⟩ := bd hF
      refine mr_ci0 hH ⟨rfl, rfl⟩ (mr_runS (As := [.long ((a1 : Int32).toInt64), .long 0, .long (((t1.2.2.1 47 (a0 : Int32).toNatClampNeg) - 1 : Int32).toInt64)]) (rest := []) X hH (c_X12_within e10) kM_X12_171 kT_X12_within kN_X12 kC_X12_within hd_X12_within ⟨Nat.le_of_ble_eq_true rfl, Nat.le_of_ble_eq_true rfl⟩ rfl hl.1 (Nat.le_of_ble_eq_true rfl) (dk DX12_write_0 32 rfl) ⟨Nat.zero_le _, Nat.zero_le _⟩) (fun r h1 H locs hp hH => ?_)
      obtain ⟨hr1, hr2⟩ := hp; rw [hr1]; rw [hr2] at hH; clear hr1 hr2
      refine lv_if_eq (tgt := 64) X.x X.b (dk DX12_write_0 33 rfl) (by decide) (fun c12 => ?_) (fun c12 => ?_)
      · replace hF := if_t hF c12
        refine lv_aload_n X.x X.b (dk DX12_write_0 40 rfl) rfl (lv_at hl 0 rfl) ?_
        refine lv_iconst (v := 3) X.x X.b (dk DX12_write_0 41 rfl) (by decide) ?_
        obtain ⟨x13, e14, hF⟩ := bd hF
        refine mr_ci0 hH ⟨rfl, rfl⟩ (mr_runV (As := [.int 3]) (rest := []) X hH (c_X12_fails hq e14) ((oset_at hq (Nat.le_refl _) ohas_N).trans (congrArg some ocell_N)) OX12.1 kM_X12_236 kI_X12_fails kS_X12_fails kN_X12 kC_X12_fails hd_X12_fails ⟨Nat.le_of_ble_eq_true rfl, Nat.le_of_ble_eq_true rfl⟩ rfl hl.1 (Nat.le_of_ble_eq_true rfl) (dk DX12_write_0 42 rfl) ⟨Nat.zero_le _, Nat.zero_le _⟩) (fun r h1 H locs hp hH => ?_)
        obtain ⟨hr1, hr2⟩ := hp; rw [hr1]; rw [hr2] at hH; clear hr1 hr2
        obtain ⟨v15, t16⟩ := x13
        try dsimp only at hF hH ⊢
        refine lv_i2l X.x X.b (dk DX12_write_0 43 rfl) rfl ?_
        cases sm hF
        exact mr_lret X hr hlk hH ⟨rfl, rfl⟩ (dk DX12_write_0 44 rfl)
      · replace hF := if_f hF c12
        refine lv_aload_n X.x X.b (dk DX12_write_0 34 rfl) rfl (lv_at hl 0 rfl) ?_
        refine lv_iload_n X.x X.b (dk DX12_write_0 35 rfl) rfl (lv_at hl 1 rfl) ?_
        refine lv_iload_n X.x X.b (dk DX12_write_0 36 rfl) rfl (lv_at hl 2 rfl) ?_
        refine lv_lload_n X.x X.b (dk DX12_write_0 37 rfl) rfl (lv_at hl 3 rfl) ?_
        obtain ⟨x17, e18, hF⟩ := bd hF
        refine mr_cl0 hH ⟨rfl, rfl⟩ (mr_runV (As := [.int a0, .int a1, .long a2]) (rest := []) X hH (c_X12_cut hq e18) ((oset_at hq (Nat.le_refl _) ohas_N).trans (congrArg some ocell_N)) OX12.1 kM_X12_459 kI_X12_cut kS_X12_cut kN_X12 kC_X12_cut hd_X12_cut ⟨Nat.le_of_ble_eq_true rfl, Nat.le_of_ble_eq_true rfl⟩ rfl hl.1 (Nat.le_of_ble_eq_true rfl) (dk DX12_write_0 38 rfl) ⟨Nat.zero_le _, Nat.zero_le _⟩) (fun r h1 H locs hp hH => ?_)
        obtain ⟨hr1, hr2⟩ := hp; rw [hr1]; rw [hr2] at hH; clear hr1 hr2
        obtain ⟨v19, t20⟩ := x17
        try dsimp only at hF hH ⊢
        refine lv_goto (tgt := 70) X.x X.b (dk DX12_write_0 39 rfl) (by decide) ?_
        cases sm hF
        exact mr_lret X hr hlk hH ⟨rfl, rfl⟩ (dk DX12_write_0 44 rfl)
    · replace hF := if_t hF c8
      refine lv_aload_n X.x X.b (dk DX12_write_0 17 rfl) rfl (lv_at hl 0 rfl) ?_
      refine lv_iconst (v := 2) X.x X.b (dk DX12_write_0 18 rfl) (by decide) ?_
      obtain ⟨x21, e22, hF⟩ := bd hF
      refine mr_ci0 hH ⟨rfl, rfl⟩ (mr_runV (As := [.int 2]) (rest := []) X hH (c_X12_fails hq e22) ((oset_at hq (Nat.le_refl _) ohas_N).trans (congrArg some ocell_N)) OX12.1 kM_X12_236 kI_X12_fails kS_X12_fails kN_X12 kC_X12_fails hd_X12_fails ⟨Nat.le_of_ble_eq_true rfl, Nat.le_of_ble_eq_true rfl⟩ rfl hl.1 (Nat.le_of_ble_eq_true rfl) (dk DX12_write_0 19 rfl) ⟨Nat.zero_le _, Nat.zero_le _⟩) (fun r h1 H locs hp hH => ?_)
      obtain ⟨hr1, hr2⟩ := hp; rw [hr1]; rw [hr2] at hH; clear hr1 hr2
      obtain ⟨v23, t24⟩ := x21
      try dsimp only at hF hH ⊢
      refine lv_i2l X.x X.b (dk DX12_write_0 20 rfl) rfl ?_
      cases sm hF
      exact mr_lret X hr hlk hH ⟨rfl, rfl⟩ (dk DX12_write_0 21 rfl)
  · replace hF := if_t hF c6
    refine lv_aload_n X.x X.b (dk DX12_write_0 6 rfl) rfl (lv_at hl 0 rfl) ?_
    refine lv_iconst (v := 1) X.x X.b (dk DX12_write_0 7 rfl) (by decide) ?_
    obtain ⟨x25, e26, hF⟩ := bd hF
    refine mr_ci0 hH ⟨rfl, rfl⟩ (mr_runV (As := [.int 1]) (rest := []) X hH (c_X12_fails hq e26) ((oset_at hq (Nat.le_refl _) ohas_N).trans (congrArg some ocell_N)) OX12.1 kM_X12_236 kI_X12_fails kS_X12_fails kN_X12 kC_X12_fails hd_X12_fails ⟨Nat.le_of_ble_eq_true rfl, Nat.le_of_ble_eq_true rfl⟩ rfl hl.1 (Nat.le_of_ble_eq_true rfl) (dk DX12_write_0 8 rfl) ⟨Nat.zero_le _, Nat.zero_le _⟩) (fun r h1 H locs hp hH => ?_)
    obtain ⟨hr1, hr2⟩ := hp; rw [hr1]; rw [hr2] at hH; clear hr1 hr2
    obtain ⟨v27, t28⟩ := x25
    try dsimp only at hF hH ⊢
    refine lv_i2l X.x X.b (dk DX12_write_0 9 rfl) rfl ?_
    cases sm hF
    exact mr_lret X hr hlk hH ⟨rfl, rfl⟩ (dk DX12_write_0 10 rfl)
-- X12_pour
abbrev rm_X12_pour : Room := { frames := 2, cells := 0, slots := 0, locals := 45 }
theorem hd_X12_pour : mHd yX12_pour 1 := ⟨by decide +kernel, by decide +kernel, by decide +kernel⟩
theorem DX12_pour_0 : ∀ t ∈ ([(0, .aload_n 0, 1), (1, .iload_n 1, 1), (2, .invokestatic 449, 3), (5, .ifCond .ne 7, 3), (8, .iconst 1, 1), (9, .goto 18, 3), (12, .aload_n 0, 1), (13, .getfield 84, 3), (16, .iload_n 1, 1), (17, .iaload, 1), (18, .iconst (-1), 1), (19, .if_icmp .ne 7, 3), (22, .iconst 2, 1), (23, .goto 4, 3), (26, .iconst 0, 1), (27, .putfield 106, 3), (30, .aload_n 0, 1), (31, .getfield 106, 3), (34, .ifCond .le 5, 3), (37, .iconst 0, 1), (38, .ireturn, 1), (39, .aload_n 0, 1), (40, .getfield 250, 3), (43, .aload_n 0, 1), (44, .getfield 87, 3), (47, .iload_n 1, 1), (48, .iaload, 1), (49, .invokestatic 356, 3), (52, .istore_n 2, 1), (53, .iconst 0, 1), (54, .istore_n 3, 1), (55, .iload_n 3, 1), (56, .iload_n 2, 1), (57, .if_icmp .ge 22, 3), (60, .aload_n 0, 1), (61, .iload_n 1, 1), (62, .iload_n 3, 1), (63, .aload_n 0, 1), (64, .getfield 7, 3), (67, .iload_n 3, 1), (68, .laload, 1), (69, .invokevirtual 459, 3), (72, .pop2, 1), (73, .iinc 3 1, 3), (76, .goto (-21), 3), (79, .iload_n 2, 1), (80, .ireturn, 1)] : List (Nat × Instr × Nat)), decode cX12_pour t.1 = .ok (t.2.1, t.2.2) := by decide +kernel
noncomputable def f_X12_pour_55 (b1 : Int32) (b2 : Int32) : (OS × Int32) → Option ((OS × Int32) ⊕ (OS)) := fun z => match z with | (s_t, b3) => (if b2 ≤ b3 then some (.inr s_t) else if inb b3 64 = true then (f_X12_cut s_t b1 b3 (s_t.2.2.2 3 (b3 : Int32).toNatClampNeg)).bind (fun x15 => match x15 with | (v17, t18) => bnd (b3 + 1 : Int32) (fun v19 => some (.inl ((t18, v19))))) else none)
noncomputable def f_X12_pour (st : OS) (a0 : Int32) : Option (Int32 × OS) := (f_X12_isTray a0).bind (fun x1 => (if x1 = 0 then bnd (oI st 2 1) (fun t33 => (if (t33.1 2) ≤ 0 then if inb a0 4 = true then (f_J9_min_7cf53 (t33.1 1) (t33.2.2.1 47 (a0 : Int32).toNatClampNeg)).bind (fun x37 => (lpv (f_X12_pour_55 a0 x37) ((t33, 0))).bind (fun x40 => some ((x37, x40)))) else none else some ((0, t33)))) else if inb a0 4 = true then (if (st.2.2.1 46 (a0 : Int32).toNatClampNeg) = ((-1)) then bnd (oI st 2 2) (fun t24 => (if (t24.1 2) ≤ 0 then (f_J9_min_7cf53 (t24.1 1) (t24.2.2.1 47 (a0 : Int32).toNatClampNeg)).bind (fun x27 => (lpv (f_X12_pour_55 a0 x27) ((t24, 0))).bind (fun x30 => some ((x27, x30)))) else some ((0, t24)))) else bnd (oI st 2 0) (fun t7 => (if (t7.1 2) ≤ 0 then (f_J9_min_7cf53 (t7.1 1) (t7.2.2.1 47 (a0 : Int32).toNatClampNeg)).bind (fun x10 => (lpv (f_X12_pour_55 a0 x10) ((t7, 0))).bind (fun x21 => some ((x10, x21)))) else some ((0, t7))))) else none))
set_option maxHeartbeats 4000000 in
set_option maxRecDepth 100000 in
theorem w_X12_pour_55 {p : Program} {l : Launch} {e : Env} {s : State} {m : MethodId} {args : Array Value} {below : List Frame} {meth : Method} {c : Code} {Q : State → Prop} {G : mG} {h : mM} {q : Nat → Nat} (hq : oinj LX12 q) (X : mX G p m c cX12_pour 4 s args RX12) (b1 : Int32) (b2 : Int32) : ∀ (z : OS × Int32) (r : OS), lpv (f_X12_pour_55 b1 b2) z = some r → ∀ (H : Heap) (locs : List Loc) (ls : Array Slot), mH G (oset LX12 G q z.1 h) s.heap H locs → lv_has ls 4 [(0, .ref (q 53)), (1, .int b1), (2, .int b2), (3, .int z.2)] → (∀ (H : Heap) (locs : List Loc) (ls : Array Slot), mH G (oset LX12 G q r h) s.heap H locs → lv_has ls 4 [(2, .int b2)] → W p l e rm_X12_pour s m args below meth c H locs 0 0 Q (F0 m 79 ls [])) → W p l e rm_X12_pour s m args below meth c H locs 0 0 Q (F0 m 55 ls []) := by
  refine lpv_rec ?_
  intro z r x hF hx H locs ls hH hl K0
  obtain ⟨s_t, b3⟩ := z
  dsimp only [f_X12_pour_55] at hF
  try dsimp only at hH hl
  refine lv_iload_n X.x X.b (dk DX12_pour_0 31 rfl) rfl (lv_at hl 3 rfl) ?_
  refine lv_iload_n X.x X.b (dk DX12_pour_0 32 rfl) rfl (lv_at hl 2 rfl) ?_
  refine lv_icmp_ge (tgt := 79) X.x X.b (dk DX12_pour_0 33 rfl) (by decide) (fun c13 => ?_) (fun c13 => ?_)
  · replace hF := if_t hF c13
    have hr9 := lp_r hF hx
    subst hr9
    exact K0 _ _ _ hH (lv_sub hl [2] rfl)
  · replace hF := if_f hF c13
    refine lv_aload_n X.x X.b (dk DX12_pour_0 34 rfl) rfl (lv_at hl 0 rfl) ?_
    refine lv_iload_n X.x X.b (dk DX12_pour_0 35 rfl) rfl (lv_at hl 1 rfl) ?_
    refine lv_iload_n X.x X.b (dk DX12_pour_0 36 rfl) rfl (lv_at hl 3 rfl) ?_
    refine lv_aload_n X.x X.b (dk DX12_pour_0 37 rfl) rfl (lv_at hl 0 rfl) ?_
    refine og_getR (t := 1) OX12 X hq hH 3 (by decide) rfl kF_X12_7 (dk DX12_pour_0 38 rfl) ?_
    refine lv_iload_n X.x X.b (dk DX12_pour_0 39 rfl) rfl (lv_at hl 3 rfl) ?_
    obtain ⟨c14, hF⟩ := gd hF
    refine og_lald X hq hH 3 (by decide) rfl (inb_in c14) (dk DX12_pour_0 40 rfl) ?_
    obtain ⟨x15, e16, hF⟩ := bd hF
    refine mr_cl0 hH ⟨rfl, rfl⟩ (mr_runV (As := [.int b1, .int b3, .long (s_t.2.2.2 3 (b3 : Int32).toNatClampNeg)]) (rest := []) X hH (c_X12_cut hq e16) ((oset_at hq (Nat.le_refl _) ohas_N).trans (congrArg some ocell_N)) OX12.1 kM_X12_459 kI_X12_cut kS_X12_cut kN_X12 kC_X12_cut hd_X12_cut ⟨Nat.le_of_ble_eq_true rfl, Nat.le_of_ble_eq_true rfl⟩ rfl hl.1 (Nat.le_of_ble_eq_true rfl) (dk DX12_pour_0 41 rfl) ⟨Nat.zero_le _, Nat.zero_le _⟩) (fun r h1 H locs hp hH => ?_)
    obtain ⟨hr1, hr2⟩ := hp; rw [hr1]; rw [hr2] at hH; clear hr1 hr2
    obtain ⟨v17, t18⟩ := x15
    try dsimp only at hF hH ⊢
    refine lv_pop2_2 X.x X.b (dk DX12_pour_0 42 rfl) rfl ?_
    obtain ⟨v19, e20⟩ : ∃ y : Int32, y = b3 + 1 := ⟨_, rfl⟩
    replace hF := bnd_e hF e20
    refine lv_iinc (v := v19) (lv' := [(3, .int v19), (0, .ref (q 53)), (1, .int b1), (2, .int b2)]) X.x X.b (dk DX12_pour_0 43 rfl) hl (k := 3) rfl (by rw [e20]; rfl) (by decide) rfl (fun ls hl => ?_)
    replace hl : lv_has ls 4 [(0, .ref (q 53)), (1, .int b1), (2, .int b2), (3, .int v19)] := lv_sub hl [1, 2, 3, 0] rfl
    refine lv_goto (tgt := 55) X.x X.b (dk DX12_pour_0 44 rfl) (by decide) ?_
    exact (lp_l hF hx) _ _ _ hH (lv_sub hl [0, 1, 2, 3] rfl) K0
set_option maxHeartbeats 4000000 in
set_option maxRecDepth 100000 in
theorem c_X12_pour {l : Launch} {G : mG} {h : mM} {q : Nat → Nat} (hq : oinj LX12 q) {st : OS} {a0 : Int32} {x : Int32 × OS} (hF : f_X12_pour st a0 = some x) : cQ l G yX12_pour cX12_pour 4 (some FieldType.int) rm_X12_pour [.ref (q 53), .int a0] (oset LX12 G q st h) (mQi G (fun r h1 => r = x.1 ∧ h1 = oset LX12 G q x.2 h)) := by
  refine mp_of (by decide +kernel) (Nat.le_of_ble_eq_true rfl) ?_
  intro p e s m below meth c X hr hlk hH hname ls hl
  dsimp only [f_X12_pour] at hF
  replace hl : lv_has ls 4 [(0, .ref (q 53)), (1, .int a0)] := hl
  refine lv_aload_n X.x X.b (dk DX12_pour_0 0 rfl) rfl (lv_at hl 0 rfl) ?_
  refine lv_iload_n X.x X.b (dk DX12_pour_0 1 rfl) rfl (lv_at hl 1 rfl) ?_
  obtain ⟨x1, e2, hF⟩ := bd hF
  refine mr_ci0 hH ⟨rfl, rfl⟩ (mr_runS (As := [.int a0]) (rest := [.ref (q 53)]) X hH (c_X12_isTray e2) kM_X12_449 kT_X12_isTray kN_X12 kC_X12_isTray hd_X12_isTray ⟨Nat.le_of_ble_eq_true rfl, Nat.le_of_ble_eq_true rfl⟩ rfl hl.1 (Nat.le_of_ble_eq_true rfl) (dk DX12_pour_0 2 rfl) ⟨Nat.zero_le _, Nat.zero_le _⟩) (fun r h1 H locs hp hH => ?_)
  obtain ⟨hr1, hr2⟩ := hp; rw [hr1]; rw [hr2] at hH; clear hr1 hr2
  refine lv_if_ne (tgt := 12) X.x X.b (dk DX12_pour_0 3 rfl) (by decide) (fun c4 => ?_) (fun c4 => ?_)
  · replace hF := if_f hF c4
    refine lv_aload_n X.x X.b (dk DX12_pour_0 6 rfl) rfl (lv_at hl 0 rfl) ?_
    refine og_getR (t := 0) OX12 X hq hH 46 (by decide) rfl kF_X12_84 (dk DX12_pour_0 7 rfl) ?_
    refine lv_iload_n X.x X.b (dk DX12_pour_0 8 rfl) rfl (lv_at hl 1 rfl) ?_
    obtain ⟨c5, hF⟩ := gd hF
    refine og_iald X hq hH 46 (by decide) rfl (inb_in c5) (dk DX12_pour_0 9 rfl) ?_
    refine lv_iconst (v := (-1)) X.x X.b (dk DX12_pour_0 10 rfl) (by decide) ?_
    refine lv_icmp_ne (tgt := 26) X.x X.b (dk DX12_pour_0 11 rfl) (by decide) (fun c6 => ?_) (fun c6 => ?_)
    · replace hF := if_f hF c6
      refine lv_iconst (v := 0) X.x X.b (dk DX12_pour_0 14 rfl) (by decide) ?_
      refine og_putI OX12 X hq hH 2 (by decide) rfl kF_X12_106 rfl rfl rfl (dk DX12_pour_0 15 rfl) (fun H locs hH => ?_)
      obtain ⟨t7, e8⟩ : ∃ y, y = oI st 2 0 := ⟨_, rfl⟩
      rw [← e8] at hH
      replace hF := bnd_e hF e8
      refine lv_aload_n X.x X.b (dk DX12_pour_0 16 rfl) rfl (lv_at hl 0 rfl) ?_
      refine og_getI OX12 X hq hH 2 (by decide) rfl kF_X12_106 (dk DX12_pour_0 17 rfl) ?_
      refine lv_if_le (tgt := 39) X.x X.b (dk DX12_pour_0 18 rfl) (by decide) (fun c9 => ?_) (fun c9 => ?_)
      · replace hF := if_t hF c9
        refine lv_aload_n X.x X.b (dk DX12_pour_0 21 rfl) rfl (lv_at hl 0 rfl) ?_
        refine og_getI OX12 X hq hH 1 (by decide) rfl kF_X12_250 (dk DX12_pour_0 22 rfl) ?_
        refine lv_aload_n X.x X.b (dk DX12_pour_0 23 rfl) rfl (lv_at hl 0 rfl) ?_
        refine og_getR (t := 0) OX12 X hq hH 47 (by decide) rfl kF_X12_87 (dk DX12_pour_0 24 rfl) ?_
        refine lv_iload_n X.x X.b (dk DX12_pour_0 25 rfl) rfl (lv_at hl 1 rfl) ?_
        refine og_iald X hq hH 47 (by decide) rfl (inb_in c5) (dk DX12_pour_0 26 rfl) ?_
        obtain ⟨x10, e11, hF⟩ := bd hF
        refine mr_ci0 hH ⟨rfl, rfl⟩ (mr_runS (As := [.int (t7.1 1), .int (t7.2.2.1 47 (a0 : Int32).toNatClampNeg)]) (rest := []) X hH (c_J9_min_7cf53 e11) kM_X12_356 kT_J9_min_7cf53 kN_J9 kC_J9_min_7cf53 hd_J9_min_7cf53 ⟨Nat.le_of_ble_eq_true rfl, Nat.le_of_ble_eq_true rfl⟩ rfl hl.1 (Nat.le_of_ble_eq_true rfl) (dk DX12_pour_0 27 rfl) ⟨Nat.zero_le _, Nat.zero_le _⟩) (fun r h1 H locs hp hH => ?_)
        obtain ⟨hr1, hr2⟩ := hp; rw [hr1]; rw [hr2] at hH; clear hr1 hr2
        refine lv_istore_n (lv' := [(2, .int x10), (0, .ref (q 53)), (1, .int a0)]) X.x X.b (dk DX12_pour_0 28 rfl) rfl hl (by decide) rfl (fun ls hl => ?_)
        replace hl : lv_has ls 4 [(0, .ref (q 53)), (1, .int a0), (2, .int x10)] := lv_sub hl [1, 2, 0] rfl
        refine lv_iconst (v := 0) X.x X.b (dk DX12_pour_0 29 rfl) (by decide) ?_
        refine lv_istore_n (lv' := [(3, .int 0), (0, .ref (q 53)), (1, .int a0), (2, .int x10)]) X.x X.b (dk DX12_pour_0 30 rfl) rfl hl (by decide) rfl (fun ls hl => ?_)
        replace hl : lv_has ls 4 [(0, .ref (q 53)), (1, .int a0), (2, .int x10), (3, .int 0)] := lv_sub hl [1, 2, 3, 0] rfl
        obtain ⟨x21, e22, hF⟩ := bd hF
        replace hl : lv_has ls 4 [(0, .ref (q 53)), (1, .int a0), (2, .int x10), (3, .int 0)] := lv_sub hl [0, 1, 2, 3] rfl
        refine w_X12_pour_55 hq X a0 x10 _ _ e22 _ _ _ hH hl (fun H locs ls hH hl => ?_)
        refine lv_iload_n X.x X.b (dk DX12_pour_0 45 rfl) rfl (lv_at hl 0 rfl) ?_
        cases sm hF
        exact mr_iret X hr hlk hH ⟨rfl, rfl⟩ (dk DX12_pour_0 46 rfl)
      · replace hF := if_f hF c9
        refine lv_iconst (v := 0) X.x X.b (dk DX12_pour_0 19 rfl) (by decide) ?_
        cases sm hF
        exact mr_iret X hr hlk hH ⟨rfl, rfl⟩ (dk DX12_pour_0 20 rfl)
    · replace hF := if_t hF c6
      refine lv_iconst (v := 2) X.x X.b (dk DX12_pour_0 12 rfl) (by decide) ?_
      refine lv_goto (tgt := 27) X.x X.b (dk DX12_pour_0 13 rfl) (by decide) ?_
      refine og_putI OX12 X hq hH 2 (by decide) rfl kF_X12_106 rfl rfl rfl (dk DX12_pour_0 15 rfl) (fun H locs hH => ?_)
      obtain ⟨t24, e25⟩ : ∃ y, y = oI st 2 2 := ⟨_, rfl⟩
      rw [← e25] at hH
      replace hF := bnd_e hF e25
      refine lv_aload_n X.x X.b (dk DX12_pour_0 16 rfl) rfl (lv_at hl 0 rfl) ?_
      refine og_getI OX12 X hq hH 2 (by decide) rfl kF_X12_106 (dk DX12_pour_0 17 rfl) ?_
      refine lv_if_le (tgt := 39) X.x X.b (dk DX12_pour_0 18 rfl) (by decide) (fun c26 => ?_) (fun c26 => ?_)
      · replace hF := if_t hF c26
        refine lv_aload_n X.x X.b (dk DX12_pour_0 21 rfl) rfl (lv_at hl 0 rfl) ?_
        refine og_getI OX12 X hq hH 1 (by decide) rfl kF_X12_250 (dk DX12_pour_0 22 rfl) ?_
        refine lv_aload_n X.x X.b (dk DX12_pour_0 23 rfl) rfl (lv_at hl 0 rfl) ?_
        refine og_getR (t := 0) OX12 X hq hH 47 (by decide) rfl kF_X12_87 (dk DX12_pour_0 24 rfl) ?_
        refine lv_iload_n X.x X.b (dk DX12_pour_0 25 rfl) rfl (lv_at hl 1 rfl) ?_
        refine og_iald X hq hH 47 (by decide) rfl (inb_in c5) (dk DX12_pour_0 26 rfl) ?_
        obtain ⟨x27, e28, hF⟩ := bd hF
        refine mr_ci0 hH ⟨rfl, rfl⟩ (mr_runS (As := [.int (t24.1 1), .int (t24.2.2.1 47 (a0 : Int32).toNatClampNeg)]) (rest := []) X hH (c_J9_min_7cf53 e28) kM_X12_356 kT_J9_min_7cf53 kN_J9 kC_J9_min_7cf53 hd_J9_min_7cf53 ⟨Nat.le_of_ble_eq_true rfl, Nat.le_of_ble_eq_true rfl⟩ rfl hl.1 (Nat.le_of_ble_eq_true rfl) (dk DX12_pour_0 27 rfl) ⟨Nat.zero_le _, Nat.zero_le _⟩) (fun r h1 H locs hp hH => ?_)
        obtain ⟨hr1, hr2⟩ := hp; rw [hr1]; rw [hr2] at hH; clear hr1 hr2
        refine lv_istore_n (lv' := [(2, .int x27), (0, .ref (q 53)), (1, .int a0)]) X.x X.b (dk DX12_pour_0 28 rfl) rfl hl (by decide) rfl (fun ls hl => ?_)
        replace hl : lv_has ls 4 [(0, .ref (q 53)), (1, .int a0), (2, .int x27)] := lv_sub hl [1, 2, 0] rfl
        refine lv_iconst (v := 0) X.x X.b (dk DX12_pour_0 29 rfl) (by decide) ?_
        refine lv_istore_n (lv' := [(3, .int 0), (0, .ref (q 53)), (1, .int a0), (2, .int x27)]) X.x X.b (dk DX12_pour_0 30 rfl) rfl hl (by decide) rfl (fun ls hl => ?_)
        replace hl : lv_has ls 4 [(0, .ref (q 53)), (1, .int a0), (2, .int x27), (3, .int 0)] := lv_sub hl [1, 2, 3, 0] rfl
        obtain ⟨x30, e31, hF⟩ := bd hF
        replace hl : lv_has ls 4 [(0, .ref (q 53)), (1, .int a0), (2, .int x27), (3, .int 0)] := lv_sub hl [0, 1, 2, 3] rfl
        refine w_X12_pour_55 hq X a0 x27 _ _ e31 _ _ _ hH hl (fun H locs ls hH hl => ?_)
        refine lv_iload_n X.x X.b (dk DX12_pour_0 45 rfl) rfl (lv_at hl 0 rfl) ?_
        cases sm hF
        exact mr_iret X hr hlk hH ⟨rfl, rfl⟩ (dk DX12_pour_0 46 rfl)
      · replace hF := if_f hF c26
        refine lv_iconst (v := 0) X.x X.b (dk DX12_pour_0 19 rfl) (by decide) ?_
        cases sm hF
        exact mr_iret X hr hlk hH ⟨rfl, rfl⟩ (dk DX12_pour_0 20 rfl)
  · replace hF := if_t hF c4
    refine lv_iconst (v := 1) X.x X.b (dk DX12_pour_0 4 rfl) (by decide) ?_
    refine lv_goto (tgt := 27) X.x X.b (dk DX12_pour_0 5 rfl) (by decide) ?_
    refine og_putI OX12 X hq hH 2 (by decide) rfl kF_X12_106 rfl rfl rfl (dk DX12_pour_0 15 rfl) (fun H locs hH => ?_)
    obtain ⟨t33, e34⟩ : ∃ y, y = oI st 2 1 := ⟨_, rfl⟩
    rw [← e34] at hH
    replace hF := bnd_e hF e34
    refine lv_aload_n X.x X.b (dk DX12_pour_0 16 rfl) rfl (lv_at hl 0 rfl) ?_
    refine og_getI OX12 X hq hH 2 (by decide) rfl kF_X12_106 (dk DX12_pour_0 17 rfl) ?_
    refine lv_if_le (tgt := 39) X.x X.b (dk DX12_pour_0 18 rfl) (by decide) (fun c35 => ?_) (fun c35 => ?_)
    · replace hF := if_t hF c35
      refine lv_aload_n X.x X.b (dk DX12_pour_0 21 rfl) rfl (lv_at hl 0 rfl) ?_
      refine og_getI OX12 X hq hH 1 (by decide) rfl kF_X12_250 (dk DX12_pour_0 22 rfl) ?_
      refine lv_aload_n X.x X.b (dk DX12_pour_0 23 rfl) rfl (lv_at hl 0 rfl) ?_
      refine og_getR (t := 0) OX12 X hq hH 47 (by decide) rfl kF_X12_87 (dk DX12_pour_0 24 rfl) ?_
      refine lv_iload_n X.x X.b (dk DX12_pour_0 25 rfl) rfl (lv_at hl 1 rfl) ?_
      obtain ⟨c36, hF⟩ := gd hF
      refine og_iald X hq hH 47 (by decide) rfl (inb_in c36) (dk DX12_pour_0 26 rfl) ?_
      obtain ⟨x37, e38, hF⟩ := bd hF
      refine mr_ci0 hH ⟨rfl, rfl⟩ (mr_runS (As := [.int (t33.1 1), .int (t33.2.2.1 47 (a0 : Int32).toNatClampNeg)]) (rest := []) X hH (c_J9_min_7cf53 e38) kM_X12_356 kT_J9_min_7cf53 kN_J9 kC_J9_min_7cf53 hd_J9_min_7cf53 ⟨Nat.le_of_ble_eq_true rfl, Nat.le_of_ble_eq_true rfl⟩ rfl hl.1 (Nat.le_of_ble_eq_true rfl) (dk DX12_pour_0 27 rfl) ⟨Nat.zero_le _, Nat.zero_le _⟩) (fun r h1 H locs hp hH => ?_)
      obtain ⟨hr1, hr2⟩ := hp; rw [hr1]; rw [hr2] at hH; clear hr1 hr2
      refine lv_istore_n (lv' := [(2, .int x37), (0, .ref (q 53)), (1, .int a0)]) X.x X.b (dk DX12_pour_0 28 rfl) rfl hl (by decide) rfl (fun ls hl => ?_)
      replace hl : lv_has ls 4 [(0, .ref (q 53)), (1, .int a0), (2, .int x37)] := lv_sub hl [1, 2, 0] rfl
      refine lv_iconst (v := 0) X.x X.b (dk DX12_pour_0 29 rfl) (by decide) ?_
      refine lv_istore_n (lv' := [(3, .int 0), (0, .ref (q 53)), (1, .int a0), (2, .int x37)]) X.x X.b (dk DX12_pour_0 30 rfl) rfl hl (by decide) rfl (fun ls hl => ?_)
      replace hl : lv_has ls 4 [(0, .ref (q 53)), (1, .int a0), (2, .int x37), (3, .int 0)] := lv_sub hl [1, 2, 3, 0] rfl
      obtain ⟨x40, e41, hF⟩ := bd hF
      replace hl : lv_has ls 4 [(0, .ref (q 53)), (1, .int a0), (2, .int x37), (3, .int 0)] := lv_sub hl [0, 1, 2, 3] rfl
      refine w_X12_pour_55 hq X a0 x37 _ _ e41 _ _ _ hH hl (fun H locs ls hH hl => ?_)
      refine lv_iload_n X.x X.b (dk DX12_pour_0 45 rfl) rfl (lv_at hl 0 rfl) ?_
      cases sm hF
      exact mr_iret X hr hlk hH ⟨rfl, rfl⟩ (dk DX12_pour_0 46 rfl)
    · replace hF := if_f hF c35
      refine lv_iconst (v := 0) X.x X.b (dk DX12_pour_0 19 rfl) (by decide) ?_
      cases sm hF
      exact mr_iret X hr hlk hH ⟨rfl, rfl⟩ (dk DX12_pour_0 20 rfl)
-- X12_image
abbrev rm_X12_image : Room := { frames := 1, cells := 0, slots := 0, locals := 25 }
theorem hd_X12_image : mHd yX12_image 1 := ⟨by decide +kernel, by decide +kernel, by decide +kernel⟩
theorem DX12_image_0 : ∀ t ∈ ([(0, .aload_n 0, 1), (1, .iload_n 1, 1), (2, .i2l, 1), (3, .lconst 0, 1), (4, .ldc2_w 298, 3), (7, .invokestatic 171, 3), (10, .ifCond .eq 7, 3), (13, .iconst 0, 1), (14, .goto 4, 3), (17, .iconst 1, 1), (18, .putfield 106, 3), (21, .aload_n 0, 1), (22, .getfield 106, 3), (25, .ifCond .le 4, 3), (28, .return_, 1), (29, .aload_n 0, 1), (30, .getfield 93, 3), (33, .iload_n 1, 1), (34, .iconst 1, 1), (35, .bastore, 1), (36, .aload_n 0, 1), (37, .aload_n 0, 1), (38, .getfield 103, 3), (41, .aload_n 0, 1), (42, .getfield 97, 3), (45, .aload_n 0, 1), (46, .getfield 100, 3), (49, .iload_n 1, 1), (50, .invokevirtual 410, 3), (53, .return_, 1)] : List (Nat × Instr × Nat)), decode cX12_image t.1 = .ok (t.2.1, t.2.2) := by decide +kernel
noncomputable def f_X12_image (st : OS) (a0 : Int32) : Option (OS) := (f_X12_within ((a0 : Int32).toInt64) 0 2).bind (fun x1 => (if x1 = 0 then bnd (oI st 2 1) (fun t5 => (if (t5.1 2) ≤ 0 then if inb a0 3 = true then bnd (oA t5 49 (upd (t5.2.2.1 49) (a0 : Int32).toNatClampNeg (vp_nar .boolean 1))) (fun t9 => (f_X12_keeps t9 52 192 50 3 51 3 a0).bind (fun x11 => some x11)) else none else some t5)) else bnd (oI st 2 0) (fun t14 => (if (t14.1 2) ≤ 0 then if inb a0 3 = true then bnd (oA t14 49 (upd (t14.2.2.1 49) (a0 : Int32).toNatClampNeg (vp_nar .boolean 1))) (fun t18 => (f_X12_keeps t18 52 192 50 3 51 3 a0).bind (fun x20 => some x20)) else none else some t14))))
set_option maxHeartbeats 4000000 in
set_option maxRecDepth 100000 in
theorem c_X12_image {l : Launch} {G : mG} {h : mM} {q : Nat → Nat} (hq : oinj LX12 q) {st : OS} {a0 : Int32} {x : OS} (hF : f_X12_image st a0 = some x) : cQ l G yX12_image cX12_image 2 none rm_X12_image [.ref (q 53), .int a0] (oset LX12 G q st h) (mQv G (fun h1 => h1 = oset LX12 G q x h)) := by
  refine mp_of (by decide +kernel) (Nat.le_of_ble_eq_true rfl) ?_
  intro p e s m below meth c X hr hlk hH hname ls hl
  dsimp only [f_X12_image] at hF
  replace hl : lv_has ls 2 [(0, .ref (q 53)), (1, .int a0)] := hl
  refine lv_aload_n X.x X.b (dk DX12_image_0 0 rfl) rfl (lv_at hl 0 rfl) ?_
  refine lv_iload_n X.x X.b (dk DX12_image_0 1 rfl) rfl (lv_at hl 1 rfl) ?_
  refine lv_i2l X.x X.b (dk DX12_image_0 2 rfl) rfl ?_
  refine lv_lconst (v := 0) X.x X.b (dk DX12_image_0 3 rfl) (by decide) ?_
  refine lv_ldc2 (v := 2) X.x X.b X.ow (X.ts _ kK_X12_298) (dk DX12_image_0 4 rfl) ?_
  obtain ⟨x1, e2, hF⟩ := bd hF
  refine mr_ci0 hH ⟨rfl, rfl⟩ (mr_runS (As := [.long ((a0 : Int32).toInt64), .long 0, .long 2]) (rest := [.ref (q 53)]) X hH (c_X12_within e2) kM_X12_171 kT_X12_within kN_X12 kC_X12_within hd_X12_within ⟨Nat.le_of_ble_eq_true rfl, Nat.le_of_ble_eq_true rfl⟩ rfl hl.1 (Nat.le_of_ble_eq_true rfl) (dk DX12_image_0 5 rfl) ⟨Nat.zero_le _, Nat.zero_le _⟩) (fun r h1 H locs hp hH => ?_)
  obtain ⟨hr1, hr2⟩ := hp; rw [hr1]; rw [hr2] at hH; clear hr1 hr2
  refine lv_if_eq (tgt := 17) X.x X.b (dk DX12_image_0 6 rfl) (by decide) (fun c4 => ?_) (fun c4 => ?_)
  · replace hF := if_t hF c4
    refine lv_iconst (v := 1) X.x X.b (dk DX12_image_0 9 rfl) (by decide) ?_
    refine og_putI OX12 X hq hH 2 (by decide) rfl kF_X12_106 rfl rfl rfl (dk DX12_image_0 10 rfl) (fun H locs hH => ?_)
    obtain ⟨t5, e6⟩ : ∃ y, y = oI st 2 1 := ⟨_, rfl⟩
    rw [← e6] at hH
    replace hF := bnd_e hF e6
    refine lv_aload_n X.x X.b (dk DX12_image_0 11 rfl) rfl (lv_at hl 0 rfl) ?_
    refine og_getI OX12 X hq hH 2 (by decide) rfl kF_X12_106 (dk DX12_image_0 12 rfl) ?_
    refine lv_if_le (tgt := 29) X.x X.b (dk DX12_image_0 13 rfl) (by decide) (fun c7 => ?_) (fun c7 => ?_)
    · replace hF := if_t hF c7
      refine lv_aload_n X.x X.b (dk DX12_image_0 15 rfl) rfl (lv_at hl 0 rfl) ?_
      refine og_getR (t := 3) OX12 X hq hH 49 (by decide) rfl kF_X12_93 (dk DX12_image_0 16 rfl) ?_
      refine lv_iload_n X.x X.b (dk DX12_image_0 17 rfl) rfl (lv_at hl 1 rfl) ?_
      refine lv_iconst (v := 1) X.x X.b (dk DX12_image_0 18 rfl) (by decide) ?_
      obtain ⟨c8, hF⟩ := gd hF
      refine og_zast X hq hH 49 (by decide) rfl (inb_in c8) (dk DX12_image_0 19 rfl) (fun H locs hH => ?_)
      obtain ⟨t9, e10⟩ : ∃ y, y = oA t5 49 (upd (t5.2.2.1 49) (a0 : Int32).toNatClampNeg (vp_nar .boolean 1)) := ⟨_, rfl⟩
      rw [← e10] at hH
      replace hF := bnd_e hF e10
      refine lv_aload_n X.x X.b (dk DX12_image_0 20 rfl) rfl (lv_at hl 0 rfl) ?_
      refine lv_aload_n X.x X.b (dk DX12_image_0 21 rfl) rfl (lv_at hl 0 rfl) ?_
      refine og_getR (t := 1) OX12 X hq hH 52 (by decide) rfl kF_X12_103 (dk DX12_image_0 22 rfl) ?_
      refine lv_aload_n X.x X.b (dk DX12_image_0 23 rfl) rfl (lv_at hl 0 rfl) ?_
      refine og_getR (t := 0) OX12 X hq hH 50 (by decide) rfl kF_X12_97 (dk DX12_image_0 24 rfl) ?_
      refine lv_aload_n X.x X.b (dk DX12_image_0 25 rfl) rfl (lv_at hl 0 rfl) ?_
      refine og_getR (t := 0) OX12 X hq hH 51 (by decide) rfl kF_X12_100 (dk DX12_image_0 26 rfl) ?_
      refine lv_iload_n X.x X.b (dk DX12_image_0 27 rfl) rfl (lv_at hl 1 rfl) ?_
      obtain ⟨x11, e12, hF⟩ := bd hF
      refine mr_cv0 hH ⟨rfl, rfl⟩ (mr_runV (As := [.ref (q 52), .ref (q 50), .ref (q 51), .int a0]) (rest := []) X hH (c_X12_keeps hq (by decide) rfl (by decide) rfl (by decide) rfl e12) ((oset_at hq (Nat.le_refl _) ohas_N).trans (congrArg some ocell_N)) OX12.1 kM_X12_410 kI_X12_keeps kS_X12_keeps kN_X12 kC_X12_keeps hd_X12_keeps ⟨Nat.le_of_ble_eq_true rfl, Nat.le_of_ble_eq_true rfl⟩ rfl hl.1 (Nat.le_of_ble_eq_true rfl) (dk DX12_image_0 28 rfl) ⟨Nat.zero_le _, Nat.zero_le _⟩) (fun h1 H locs hp hH => ?_)
      rw [hp] at hH; clear hp
      cases sm hF
      exact mr_vret X hr hlk hH rfl (dk DX12_image_0 29 rfl)
    · replace hF := if_f hF c7
      cases sm hF
      exact mr_vret X hr hlk hH rfl (dk DX12_image_0 14 rfl)
  · replace hF := if_f hF c4
    refine lv_iconst (v := 0) X.x X.b (dk DX12_image_0 7 rfl) (by decide) ?_
    refine lv_goto (tgt := 18) X.x X.b (dk DX12_image_0 8 rfl) (by decide) ?_
    refine og_putI OX12 X hq hH 2 (by decide) rfl kF_X12_106 rfl rfl rfl (dk DX12_image_0 10 rfl) (fun H locs hH => ?_)
    obtain ⟨t14, e15⟩ : ∃ y, y = oI st 2 0 := ⟨_, rfl⟩
    rw [← e15] at hH
    replace hF := bnd_e hF e15
    refine lv_aload_n X.x X.b (dk DX12_image_0 11 rfl) rfl (lv_at hl 0 rfl) ?_
    refine og_getI OX12 X hq hH 2 (by decide) rfl kF_X12_106 (dk DX12_image_0 12 rfl) ?_
    refine lv_if_le (tgt := 29) X.x X.b (dk DX12_image_0 13 rfl) (by decide) (fun c16 => ?_) (fun c16 => ?_)
    · replace hF := if_t hF c16
      refine lv_aload_n X.x X.b (dk DX12_image_0 15 rfl) rfl (lv_at hl 0 rfl) ?_
      refine og_getR (t := 3) OX12 X hq hH 49 (by decide) rfl kF_X12_93 (dk DX12_image_0 16 rfl) ?_
      refine lv_iload_n X.x X.b (dk DX12_image_0 17 rfl) rfl (lv_at hl 1 rfl) ?_
      refine lv_iconst (v := 1) X.x X.b (dk DX12_image_0 18 rfl) (by decide) ?_
      obtain ⟨c17, hF⟩ := gd hF
      refine og_zast X hq hH 49 (by decide) rfl (inb_in c17) (dk DX12_image_0 19 rfl) (fun H locs hH => ?_)
      obtain ⟨t18, e19⟩ : ∃ y, y = oA t14 49 (upd (t14.2.2.1 49) (a0 : Int32).toNatClampNeg (vp_nar .boolean 1)) := ⟨_, rfl⟩
      rw [← e19] at hH
      replace hF := bnd_e hF e19
      refine lv_aload_n X.x X.b (dk DX12_image_0 20 rfl) rfl (lv_at hl 0 rfl) ?_
      refine lv_aload_n X.x X.b (dk DX12_image_0 21 rfl) rfl (lv_at hl 0 rfl) ?_
      refine og_getR (t := 1) OX12 X hq hH 52 (by decide) rfl kF_X12_103 (dk DX12_image_0 22 rfl) ?_
      refine lv_aload_n X.x X.b (dk DX12_image_0 23 rfl) rfl (lv_at hl 0 rfl) ?_
      refine og_getR (t := 0) OX12 X hq hH 50 (by decide) rfl kF_X12_97 (dk DX12_image_0 24 rfl) ?_
      refine lv_aload_n X.x X.b (dk DX12_image_0 25 rfl) rfl (lv_at hl 0 rfl) ?_
      refine og_getR (t := 0) OX12 X hq hH 51 (by decide) rfl kF_X12_100 (dk DX12_image_0 26 rfl) ?_
      refine lv_iload_n X.x X.b (dk DX12_image_0 27 rfl) rfl (lv_at hl 1 rfl) ?_
      obtain ⟨x20, e21, hF⟩ := bd hF
      refine mr_cv0 hH ⟨rfl, rfl⟩ (mr_runV (As := [.ref (q 52), .ref (q 50), .ref (q 51), .int a0]) (rest := []) X hH (c_X12_keeps hq (by decide) rfl (by decide) rfl (by decide) rfl e21) ((oset_at hq (Nat.le_refl _) ohas_N).trans (congrArg some ocell_N)) OX12.1 kM_X12_410 kI_X12_keeps kS_X12_keeps kN_X12 kC_X12_keeps hd_X12_keeps ⟨Nat.le_of_ble_eq_true rfl, Nat.le_of_ble_eq_true rfl⟩ rfl hl.1 (Nat.le_of_ble_eq_true rfl) (dk DX12_image_0 28 rfl) ⟨Nat.zero_le _, Nat.zero_le _⟩) (fun h1 H locs hp hH => ?_)
      rw [hp] at hH; clear hp
      cases sm hF
      exact mr_vret X hr hlk hH rfl (dk DX12_image_0 29 rfl)
    · replace hF := if_f hF c16
      cases sm hF
      exact mr_vret X hr hlk hH rfl (dk DX12_image_0 14 rfl)
-- X12_restore
abbrev rm_X12_restore : Room := { frames := 1, cells := 0, slots := 0, locals := 25 }
theorem hd_X12_restore : mHd yX12_restore 1 := ⟨by decide +kernel, by decide +kernel, by decide +kernel⟩
theorem DX12_restore_0 : ∀ t ∈ ([(0, .aload_n 0, 1), (1, .iload_n 1, 1), (2, .i2l, 1), (3, .lconst 0, 1), (4, .ldc2_w 298, 3), (7, .invokestatic 171, 3), (10, .ifCond .ne 7, 3), (13, .iconst 1, 1), (14, .goto 17, 3), (17, .aload_n 0, 1), (18, .getfield 93, 3), (21, .iload_n 1, 1), (22, .baload, 1), (23, .ifCond .ne 7, 3), (26, .iconst 2, 1), (27, .goto 4, 3), (30, .iconst 0, 1), (31, .putfield 106, 3), (34, .aload_n 0, 1), (35, .getfield 106, 3), (38, .ifCond .le 4, 3), (41, .return_, 1), (42, .aload_n 0, 1), (43, .aload_n 0, 1), (44, .getfield 103, 3), (47, .aload_n 0, 1), (48, .getfield 97, 3), (51, .aload_n 0, 1), (52, .getfield 100, 3), (55, .iload_n 1, 1), (56, .invokevirtual 432, 3), (59, .aload_n 0, 1), (60, .iconst 0, 1), (61, .putfield 253, 3), (64, .aload_n 0, 1), (65, .iconst 0, 1), (66, .putfield 256, 3), (69, .return_, 1)] : List (Nat × Instr × Nat)), decode cX12_restore t.1 = .ok (t.2.1, t.2.2) := by decide +kernel
noncomputable def f_X12_restore (st : OS) (a0 : Int32) : Option (OS) := (f_X12_within ((a0 : Int32).toInt64) 0 2).bind (fun x1 => (if x1 = 0 then bnd (oI st 2 1) (fun t27 => (if (t27.1 2) ≤ 0 then (f_X12_takes t27 52 192 50 3 51 3 a0).bind (fun x30 => bnd (oI x30 44 0) (fun t33 => bnd (oI t33 45 0) (fun t35 => some t35))) else some t27)) else if inb a0 3 = true then (if (st.2.2.1 49 (a0 : Int32).toNatClampNeg) = 0 then bnd (oI st 2 2) (fun t17 => (if (t17.1 2) ≤ 0 then (f_X12_takes t17 52 192 50 3 51 3 a0).bind (fun x20 => bnd (oI x20 44 0) (fun t23 => bnd (oI t23 45 0) (fun t25 => some t25))) else some t17)) else bnd (oI st 2 0) (fun t7 => (if (t7.1 2) ≤ 0 then (f_X12_takes t7 52 192 50 3 51 3 a0).bind (fun x10 => bnd (oI x10 44 0) (fun t13 => bnd (oI t13 45 0) (fun t15 => some t15))) else some t7))) else none))
set_option maxHeartbeats 4000000 in
set_option maxRecDepth 100000 in
theorem c_X12_restore {l : Launch} {G : mG} {h : mM} {q : Nat → Nat} (hq : oinj LX12 q) {st : OS} {a0 : Int32} {x : OS} (hF : f_X12_restore st a0 = some x) : cQ l G yX12_restore cX12_restore 2 none rm_X12_restore [.ref (q 53), .int a0] (oset LX12 G q st h) (mQv G (fun h1 => h1 = oset LX12 G q x h)) := by
  refine mp_of (by decide +kernel) (Nat.le_of_ble_eq_true rfl) ?_
  intro p e s m below meth c X hr hlk hH hname ls hl
  dsimp only [f_X12_restore] at hF
  replace hl : lv_has ls 2 [(0, .ref (q 53)), (1, .int a0)] := hl
  refine lv_aload_n X.x X.b (dk DX12_restore_0 0 rfl) rfl (lv_at hl 0 rfl) ?_
  refine lv_iload_n X.x X.b (dk DX12_restore_0 1 rfl) rfl (lv_at hl 1 rfl) ?_
  refine lv_i2l X.x X.b (dk DX12_restore_0 2 rfl) rfl ?_
  refine lv_lconst (v := 0) X.x X.b (dk DX12_restore_0 3 rfl) (by decide) ?_
  refine lv_ldc2 (v := 2) X.x X.b X.ow (X.ts _ kK_X12_298) (dk DX12_restore_0 4 rfl) ?_
  obtain ⟨x1, e2, hF⟩ := bd hF
  refine mr_ci0 hH ⟨rfl, rfl⟩ (mr_runS (As := [.long ((a0 : Int32).toInt64), .long 0, .long 2]) (rest := [.ref (q 53)]) X hH (c_X12_within e2) kM_X12_171 kT_X12_within kN_X12 kC_X12_within hd_X12_within ⟨Nat.le_of_ble_eq_true rfl, Nat.le_of_ble_eq_true rfl⟩ rfl hl.1 (Nat.le_of_ble_eq_true rfl) (dk DX12_restore_0 5 rfl) ⟨Nat.zero_le _, Nat.zero_le _⟩) (fun r h1 H locs hp hH => ?_)
  obtain ⟨hr1, hr2⟩ := hp; rw [hr1]; rw [hr2] at hH; clear hr1 hr2
  refine lv_if_ne (tgt := 17) X.x X.b (dk DX12_restore_0 6 rfl) (by decide) (fun c4 => ?_) (fun c4 => ?_)
  · replace hF := if_f hF c4
    refine lv_aload_n X.x X.b (dk DX12_restore_0 9 rfl) rfl (lv_at hl 0 rfl) ?_
    refine og_getR (t := 3) OX12 X hq hH 49 (by decide) rfl kF_X12_93 (dk DX12_restore_0 10 rfl) ?_
    refine lv_iload_n X.x X.b (dk DX12_restore_0 11 rfl) rfl (lv_at hl 1 rfl) ?_
    obtain ⟨c5, hF⟩ := gd hF
    refine og_zald X hq hH 49 (by decide) rfl (inb_in c5) (dk DX12_restore_0 12 rfl) ?_
    refine lv_if_ne (tgt := 30) X.x X.b (dk DX12_restore_0 13 rfl) (by decide) (fun c6 => ?_) (fun c6 => ?_)
    · replace hF := if_f hF c6
      refine lv_iconst (v := 0) X.x X.b (dk DX12_restore_0 16 rfl) (by decide) ?_
      refine og_putI OX12 X hq hH 2 (by decide) rfl kF_X12_106 rfl rfl rfl (dk DX12_restore_0 17 rfl) (fun H locs hH => ?_)
      obtain ⟨t7, e8⟩ : ∃ y, y = oI st 2 0 := ⟨_, rfl⟩
      rw [← e8] at hH
      replace hF := bnd_e hF e8
      refine lv_aload_n X.x X.b (dk DX12_restore_0 18 rfl) rfl (lv_at hl 0 rfl) ?_
      refine og_getI OX12 X hq hH 2 (by decide) rfl kF_X12_106 (dk DX12_restore_0 19 rfl) ?_
      refine lv_if_le (tgt := 42) X.x X.b (dk DX12_restore_0 20 rfl) (by decide) (fun c9 => ?_) (fun c9 => ?_)
      · replace hF := if_t hF c9
        refine lv_aload_n X.x X.b (dk DX12_restore_0 22 rfl) rfl (lv_at hl 0 rfl) ?_
        refine lv_aload_n X.x X.b (dk DX12_restore_0 23 rfl) rfl (lv_at hl 0 rfl) ?_
        refine og_getR (t := 1) OX12 X hq hH 52 (by decide) rfl kF_X12_103 (dk DX12_restore_0 24 rfl) ?_
        refine lv_aload_n X.x X.b (dk DX12_restore_0 25 rfl) rfl (lv_at hl 0 rfl) ?_
        refine og_getR (t := 0) OX12 X hq hH 50 (by decide) rfl kF_X12_97 (dk DX12_restore_0 26 rfl) ?_
        refine lv_aload_n X.x X.b (dk DX12_restore_0 27 rfl) rfl (lv_at hl 0 rfl) ?_
        refine og_getR (t := 0) OX12 X hq hH 51 (by decide) rfl kF_X12_100 (dk DX12_restore_0 28 rfl) ?_
        refine lv_iload_n X.x X.b (dk DX12_restore_0 29 rfl) rfl (lv_at hl 1 rfl) ?_
        obtain ⟨x10, e11, hF⟩ := bd hF
        refine mr_cv0 hH ⟨rfl, rfl⟩ (mr_runV (As := [.ref (q 52), .ref (q 50), .ref (q 51), .int a0]) (rest := []) X hH (c_X12_takes hq (by decide) rfl (by decide) rfl (by decide) rfl e11) ((oset_at hq (Nat.le_refl _) ohas_N).trans (congrArg some ocell_N)) OX12.1 kM_X12_432 kI_X12_takes kS_X12_takes kN_X12 kC_X12_takes hd_X12_takes ⟨Nat.le_of_ble_eq_true rfl, Nat.le_of_ble_eq_true rfl⟩ rfl hl.1 (Nat.le_of_ble_eq_true rfl) (dk DX12_restore_0 30 rfl) ⟨Nat.zero_le _, Nat.zero_le _⟩) (fun h1 H locs hp hH => ?_)
        rw [hp] at hH; clear hp
        refine lv_aload_n X.x X.b (dk DX12_restore_0 31 rfl) rfl (lv_at hl 0 rfl) ?_
        refine lv_iconst (v := 0) X.x X.b (dk DX12_restore_0 32 rfl) (by decide) ?_
        refine og_putI OX12 X hq hH 44 (by decide) rfl kF_X12_253 rfl rfl rfl (dk DX12_restore_0 33 rfl) (fun H locs hH => ?_)
        obtain ⟨t13, e14⟩ : ∃ y, y = oI x10 44 0 := ⟨_, rfl⟩
        rw [← e14] at hH
        replace hF := bnd_e hF e14
        refine lv_aload_n X.x X.b (dk DX12_restore_0 34 rfl) rfl (lv_at hl 0 rfl) ?_
        refine lv_iconst (v := 0) X.x X.b (dk DX12_restore_0 35 rfl) (by decide) ?_
        refine og_putI OX12 X hq hH 45 (by decide) rfl kF_X12_256 rfl rfl rfl (dk DX12_restore_0 36 rfl) (fun H locs hH => ?_)
        obtain ⟨t15, e16⟩ : ∃ y, y = oI t13 45 0 := ⟨_, rfl⟩
        rw [← e16] at hH
        replace hF := bnd_e hF e16
        cases sm hF
        exact mr_vret X hr hlk hH rfl (dk DX12_restore_0 37 rfl)
      · replace hF := if_f hF c9
        cases sm hF
        exact mr_vret X hr hlk hH rfl (dk DX12_restore_0 21 rfl)
    · replace hF := if_t hF c6
      refine lv_iconst (v := 2) X.x X.b (dk DX12_restore_0 14 rfl) (by decide) ?_
      refine lv_goto (tgt := 31) X.x X.b (dk DX12_restore_0 15 rfl) (by decide) ?_
      refine og_putI OX12 X hq hH 2 (by decide) rfl kF_X12_106 rfl rfl rfl (dk DX12_restore_0 17 rfl) (fun H locs hH => ?_)
      obtain ⟨t17, e18⟩ : ∃ y, y = oI st 2 2 := ⟨_, rfl⟩
      rw [← e18] at hH
      replace hF := bnd_e hF e18
      refine lv_aload_n X.x X.b (dk DX12_restore_0 18 rfl) rfl (lv_at hl 0 rfl) ?_
      refine og_getI OX12 X hq hH 2 (by decide) rfl kF_X12_106 (dk DX12_restore_0 19 rfl) ?_
      refine lv_if_le (tgt := 42) X.x X.b (dk DX12_restore_0 20 rfl) (by decide) (fun c19 => ?_) (fun c19 => ?_)
      · replace hF := if_t hF c19
        refine lv_aload_n X.x X.b (dk DX12_restore_0 22 rfl) rfl (lv_at hl 0 rfl) ?_
        refine lv_aload_n X.x X.b (dk DX12_restore_0 23 rfl) rfl (lv_at hl 0 rfl) ?_
        refine og_getR (t := 1) OX12 X hq hH 52 (by decide) rfl kF_X12_103 (dk DX12_restore_0 24 rfl) ?_
        refine lv_aload_n X.x X.b (dk DX12_restore_0 25 rfl) rfl (lv_at hl 0 rfl) ?_
        refine og_getR (t := 0) OX12 X hq hH 50 (by decide) rfl kF_X12_97 (dk DX12_restore_0 26 rfl) ?_
        refine lv_aload_n X.x X.b (dk DX12_restore_0 27 rfl) rfl (lv_at hl 0 rfl) ?_
        refine og_getR (t := 0) OX12 X hq hH 51 (by decide) rfl kF_X12_100 (dk DX12_restore_0 28 rfl) ?_
        refine lv_iload_n X.x X.b (dk DX12_restore_0 29 rfl) rfl (lv_at hl 1 rfl) ?_
        obtain ⟨x20, e21, hF⟩ := bd hF
        refine mr_cv0 hH ⟨rfl, rfl⟩ (mr_runV (As := [.ref (q 52), .ref (q 50), .ref (q 51), .int a0]) (rest := []) X hH (c_X12_takes hq (by decide) rfl (by decide) rfl (by decide) rfl e21) ((oset_at hq (Nat.le_refl _) ohas_N).trans (congrArg some ocell_N)) OX12.1 kM_X12_432 kI_X12_takes kS_X12_takes kN_X12 kC_X12_takes hd_X12_takes ⟨Nat.le_of_ble_eq_true rfl, Nat.le_of_ble_eq_true rfl⟩ rfl hl.1 (Nat.le_of_ble_eq_true rfl) (dk DX12_restore_0 30 rfl) ⟨Nat.zero_le _, Nat.zero_le _⟩) (fun h1 H locs hp hH => ?_)
        rw [hp] at hH; clear hp
        refine lv_aload_n X.x X.b (dk DX12_restore_0 31 rfl) rfl (lv_at hl 0 rfl) ?_
        refine lv_iconst (v := 0) X.x X.b (dk DX12_restore_0 32 rfl) (by decide) ?_
        refine og_putI OX12 X hq hH 44 (by decide) rfl kF_X12_253 rfl rfl rfl (dk DX12_restore_0 33 rfl) (fun H locs hH => ?_)
        obtain ⟨t23, e24⟩ : ∃ y, y = oI x20 44 0 := ⟨_, rfl⟩
        rw [← e24] at hH
        replace hF := bnd_e hF e24
        refine lv_aload_n X.x X.b (dk DX12_restore_0 34 rfl) rfl (lv_at hl 0 rfl) ?_
        refine lv_iconst (v := 0) X.x X.b (dk DX12_restore_0 35 rfl) (by decide) ?_
        refine og_putI OX12 X hq hH 45 (by decide) rfl kF_X12_256 rfl rfl rfl (dk DX12_restore_0 36 rfl) (fun H locs hH => ?_)
        obtain ⟨t25, e26⟩ : ∃ y, y = oI t23 45 0 := ⟨_, rfl⟩
        rw [← e26] at hH
        replace hF := bnd_e hF e26
        cases sm hF
        exact mr_vret X hr hlk hH rfl (dk DX12_restore_0 37 rfl)
      · replace hF := if_f hF c19
        cases sm hF
        exact mr_vret X hr hlk hH rfl (dk DX12_restore_0 21 rfl)
  · replace hF := if_t hF c4
    refine lv_iconst (v := 1) X.x X.b (dk DX12_restore_0 7 rfl) (by decide) ?_
    refine lv_goto (tgt := 31) X.x X.b (dk DX12_restore_0 8 rfl) (by decide) ?_
    refine og_putI OX12 X hq hH 2 (by decide) rfl kF_X12_106 rfl rfl rfl (dk DX12_restore_0 17 rfl) (fun H locs hH => ?_)
    obtain ⟨t27, e28⟩ : ∃ y, y = oI st 2 1 := ⟨_, rfl⟩
    rw [← e28] at hH
    replace hF := bnd_e hF e28
    refine lv_aload_n X.x X.b (dk DX12_restore_0 18 rfl) rfl (lv_at hl 0 rfl) ?_
    refine og_getI OX12 X hq hH 2 (by decide) rfl kF_X12_106 (dk DX12_restore_0 19 rfl) ?_
    refine lv_if_le (tgt := 42) X.x X.b (dk DX12_restore_0 20 rfl) (by decide) (fun c29 => ?_) (fun c29 => ?_)
    · replace hF := if_t hF c29
      refine lv_aload_n X.x X.b (dk DX12_restore_0 22 rfl) rfl (lv_at hl 0 rfl) ?_
      refine lv_aload_n X.x X.b (dk DX12_restore_0 23 rfl) rfl (lv_at hl 0 rfl) ?_
      refine og_getR (t := 1) OX12 X hq hH 52 (by decide) rfl kF_X12_103 (dk DX12_restore_0 24 rfl) ?_
      refine lv_aload_n X.x X.b (dk DX12_restore_0 25 rfl) rfl (lv_at hl 0 rfl) ?_
      refine og_getR (t := 0) OX12 X hq hH 50 (by decide) rfl kF_X12_97 (dk DX12_restore_0 26 rfl) ?_
      refine lv_aload_n X.x X.b (dk DX12_restore_0 27 rfl) rfl (lv_at hl 0 rfl) ?_
      refine og_getR (t := 0) OX12 X hq hH 51 (by decide) rfl kF_X12_100 (dk DX12_restore_0 28 rfl) ?_
      refine lv_iload_n X.x X.b (dk DX12_restore_0 29 rfl) rfl (lv_at hl 1 rfl) ?_
      obtain ⟨x30, e31, hF⟩ := bd hF
      refine mr_cv0 hH ⟨rfl, rfl⟩ (mr_runV (As := [.ref (q 52), .ref (q 50), .ref (q 51), .int a0]) (rest := []) X hH (c_X12_takes hq (by decide) rfl (by decide) rfl (by decide) rfl e31) ((oset_at hq (Nat.le_refl _) ohas_N).trans (congrArg some ocell_N)) OX12.1 kM_X12_432 kI_X12_takes kS_X12_takes kN_X12 kC_X12_takes hd_X12_takes ⟨Nat.le_of_ble_eq_true rfl, Nat.le_of_ble_eq_true rfl⟩ rfl hl.1 (Nat.le_of_ble_eq_true rfl) (dk DX12_restore_0 30 rfl) ⟨Nat.zero_le _, Nat.zero_le _⟩) (fun h1 H locs hp hH => ?_)
      rw [hp] at hH; clear hp
      refine lv_aload_n X.x X.b (dk DX12_restore_0 31 rfl) rfl (lv_at hl 0 rfl) ?_
      refine lv_iconst (v := 0) X.x X.b (dk DX12_restore_0 32 rfl) (by decide) ?_
      refine og_putI OX12 X hq hH 44 (by decide) rfl kF_X12_253 rfl rfl rfl (dk DX12_restore_0 33 rfl) (fun H locs hH => ?_)
      obtain ⟨t33, e34⟩ : ∃ y, y = oI x30 44 0 := ⟨_, rfl⟩
      rw [← e34] at hH
      replace hF := bnd_e hF e34
      refine lv_aload_n X.x X.b (dk DX12_restore_0 34 rfl) rfl (lv_at hl 0 rfl) ?_
      refine lv_iconst (v := 0) X.x X.b (dk DX12_restore_0 35 rfl) (by decide) ?_
      refine og_putI OX12 X hq hH 45 (by decide) rfl kF_X12_256 rfl rfl rfl (dk DX12_restore_0 36 rfl) (fun H locs hH => ?_)
      obtain ⟨t35, e36⟩ : ∃ y, y = oI t33 45 0 := ⟨_, rfl⟩
      rw [← e36] at hH
      replace hF := bnd_e hF e36
      cases sm hF
      exact mr_vret X hr hlk hH rfl (dk DX12_restore_0 37 rfl)
    · replace hF := if_f hF c29
      cases sm hF
      exact mr_vret X hr hlk hH rfl (dk DX12_restore_0 21 rfl)
-- X12_count
abbrev rm_X12_count : Room := { frames := 0, cells := 0, slots := 0, locals := 0 }
theorem hd_X12_count : mHd yX12_count 1 := ⟨by decide +kernel, by decide +kernel, by decide +kernel⟩
theorem DX12_count_0 : ∀ t ∈ ([(0, .aload_n 0, 1), (1, .iconst 0, 1), (2, .putfield 106, 3), (5, .iload_n 1, 1), (6, .tableswitch 59 0 4 #[34, 39, 44, 49, 54], 34), (40, .aload_n 0, 1), (41, .getfield 248, 3), (44, .ireturn, 1), (45, .aload_n 0, 1), (46, .getfield 250, 3), (49, .ireturn, 1), (50, .aload_n 0, 1), (51, .getfield 115, 3), (54, .ireturn, 1), (55, .aload_n 0, 1), (56, .getfield 253, 3), (59, .ireturn, 1), (60, .aload_n 0, 1), (61, .getfield 256, 3), (64, .ireturn, 1), (65, .iconst (-1), 1), (66, .ireturn, 1)] : List (Nat × Instr × Nat)), decode cX12_count t.1 = .ok (t.2.1, t.2.2) := by decide +kernel
noncomputable def f_X12_count (st : OS) (a0 : Int32) : Option (Int32 × OS) := bnd (oI st 2 0) (fun t1 => (if a0 = 0 then some ((t1.1 0, t1)) else (if a0 = 1 then some ((t1.1 1, t1)) else (if a0 = 2 then some ((t1.1 5, t1)) else (if a0 = 3 then some ((t1.1 44, t1)) else (if a0 = 4 then some ((t1.1 45, t1)) else some (((-1), t1))))))))
set_option maxHeartbeats 4000000 in
set_option maxRecDepth 100000 in
theorem c_X12_count {l : Launch} {G : mG} {h : mM} {q : Nat → Nat} (hq : oinj LX12 q) {st : OS} {a0 : Int32} {x : Int32 × OS} (hF : f_X12_count st a0 = some x) : cQ l G yX12_count cX12_count 2 (some FieldType.int) rm_X12_count [.ref (q 53), .int a0] (oset LX12 G q st h) (mQi G (fun r h1 => r = x.1 ∧ h1 = oset LX12 G q x.2 h)) := by
  refine mp_of (by decide +kernel) (Nat.le_of_ble_eq_true rfl) ?_
  intro p e s m below meth c X hr hlk hH hname ls hl
  dsimp only [f_X12_count] at hF
  replace hl : lv_has ls 2 [(0, .ref (q 53)), (1, .int a0)] := hl
  refine lv_aload_n X.x X.b (dk DX12_count_0 0 rfl) rfl (lv_at hl 0 rfl) ?_
  refine lv_iconst (v := 0) X.x X.b (dk DX12_count_0 1 rfl) (by decide) ?_
  refine og_putI OX12 X hq hH 2 (by decide) rfl kF_X12_106 rfl rfl rfl (dk DX12_count_0 2 rfl) (fun H locs hH => ?_)
  obtain ⟨t1, e2⟩ : ∃ y, y = oI st 2 0 := ⟨_, rfl⟩
  rw [← e2] at hH
  replace hF := bnd_e hF e2
  refine lv_iload_n X.x X.b (dk DX12_count_0 3 rfl) rfl (lv_at hl 1 rfl) ?_
  by_cases c3 : a0 = 0
  · refine lv_tableIn (tgt := 40) X.x X.b (dk DX12_count_0 4 rfl) (by rw [c3]; decide) (by rw [c3]; decide) (by rw [c3]; rfl) (by decide) ?_
    replace hF := if_t hF c3
    refine lv_aload_n X.x X.b (dk DX12_count_0 5 rfl) rfl (lv_at hl 0 rfl) ?_
    refine og_getI OX12 X hq hH 0 (by decide) rfl kF_X12_248 (dk DX12_count_0 6 rfl) ?_
    cases sm hF
    exact mr_iret X hr hlk hH ⟨rfl, rfl⟩ (dk DX12_count_0 7 rfl)
  · replace hF := if_f hF c3
    by_cases c4 : a0 = 1
    · refine lv_tableIn (tgt := 45) X.x X.b (dk DX12_count_0 4 rfl) (by rw [c4]; decide) (by rw [c4]; decide) (by rw [c4]; rfl) (by decide) ?_
      replace hF := if_t hF c4
      refine lv_aload_n X.x X.b (dk DX12_count_0 8 rfl) rfl (lv_at hl 0 rfl) ?_
      refine og_getI OX12 X hq hH 1 (by decide) rfl kF_X12_250 (dk DX12_count_0 9 rfl) ?_
      cases sm hF
      exact mr_iret X hr hlk hH ⟨rfl, rfl⟩ (dk DX12_count_0 10 rfl)
    · replace hF := if_f hF c4
      by_cases c5 : a0 = 2
      · refine lv_tableIn (tgt := 50) X.x X.b (dk DX12_count_0 4 rfl) (by rw [c5]; decide) (by rw [c5]; decide) (by rw [c5]; rfl) (by decide) ?_
        replace hF := if_t hF c5
        refine lv_aload_n X.x X.b (dk DX12_count_0 11 rfl) rfl (lv_at hl 0 rfl) ?_
        refine og_getI OX12 X hq hH 5 (by decide) rfl kF_X12_115 (dk DX12_count_0 12 rfl) ?_
        cases sm hF
        exact mr_iret X hr hlk hH ⟨rfl, rfl⟩ (dk DX12_count_0 13 rfl)
      · replace hF := if_f hF c5
        by_cases c6 : a0 = 3
        · refine lv_tableIn (tgt := 55) X.x X.b (dk DX12_count_0 4 rfl) (by rw [c6]; decide) (by rw [c6]; decide) (by rw [c6]; rfl) (by decide) ?_
          replace hF := if_t hF c6
          refine lv_aload_n X.x X.b (dk DX12_count_0 14 rfl) rfl (lv_at hl 0 rfl) ?_
          refine og_getI OX12 X hq hH 44 (by decide) rfl kF_X12_253 (dk DX12_count_0 15 rfl) ?_
          cases sm hF
          exact mr_iret X hr hlk hH ⟨rfl, rfl⟩ (dk DX12_count_0 16 rfl)
        · replace hF := if_f hF c6
          by_cases c7 : a0 = 4
          · refine lv_tableIn (tgt := 60) X.x X.b (dk DX12_count_0 4 rfl) (by rw [c7]; decide) (by rw [c7]; decide) (by rw [c7]; rfl) (by decide) ?_
            replace hF := if_t hF c7
            refine lv_aload_n X.x X.b (dk DX12_count_0 17 rfl) rfl (lv_at hl 0 rfl) ?_
            refine og_getI OX12 X hq hH 45 (by decide) rfl kF_X12_256 (dk DX12_count_0 18 rfl) ?_
            cases sm hF
            exact mr_iret X hr hlk hH ⟨rfl, rfl⟩ (dk DX12_count_0 19 rfl)
          · replace hF := if_f hF c7
            refine lv_tableOut (tgt := 65) X.x X.b (dk DX12_count_0 4 rfl) (by have := lv_neT (k := 0) (a := 0) c3 (by decide); have := lv_neT (k := 1) (a := 1) c4 (by decide); have := lv_neT (k := 2) (a := 2) c5 (by decide); have := lv_neT (k := 3) (a := 3) c6 (by decide); have := lv_neT (k := 4) (a := 4) c7 (by decide); omega) (by decide) ?_
            refine lv_iconst (v := (-1)) X.x X.b (dk DX12_count_0 20 rfl) (by decide) ?_
            cases sm hF
            exact mr_iret X hr hlk hH ⟨rfl, rfl⟩ (dk DX12_count_0 21 rfl)
theorem hd_X12_init : mHd yX12_init 0 := ⟨by decide +kernel, by decide +kernel, by decide +kernel⟩
theorem DX12_init_0 : ∀ t ∈ ([(0, .aload_n 0, 1), (1, .invokespecial 1, 3), (4, .aload_n 0, 1), (5, .bipush 64, 2), (7, .newarray .long, 2), (9, .putfield 7, 3), (12, .aload_n 0, 1), (13, .sipush 700, 3), (16, .newarray .int, 2), (18, .putfield 13, 3), (21, .aload_n 0, 1), (22, .iconst (-1), 1), (23, .putfield 17, 3), (26, .aload_n 0, 1), (27, .bipush 64, 2), (29, .newarray .long, 2), (31, .putfield 21, 3), (34, .aload_n 0, 1), (35, .bipush 81, 2), (37, .newarray .int, 2), (39, .putfield 24, 3), (42, .aload_n 0, 1), (43, .bipush 40, 2), (45, .newarray .int, 2), (47, .putfield 27, 3), (50, .aload_n 0, 1), (51, .bipush 64, 2), (53, .newarray .long, 2), (55, .putfield 30, 3), (58, .aload_n 0, 1), (59, .bipush 64, 2), (61, .newarray .long, 2), (63, .putfield 33, 3), (66, .aload_n 0, 1), (67, .bipush 64, 2), (69, .newarray .long, 2), (71, .putfield 36, 3), (74, .aload_n 0, 1), (75, .sipush 128, 3), (78, .newarray .int, 2), (80, .putfield 39, 3), (83, .aload_n 0, 1), (84, .sipush 128, 3), (87, .newarray .int, 2), (89, .putfield 42, 3), (92, .aload_n 0, 1), (93, .sipush 128, 3), (96, .newarray .int, 2), (98, .putfield 45, 3), (101, .aload_n 0, 1), (102, .sipush 4096, 3), (105, .newarray .int, 2), (107, .putfield 48, 3), (110, .aload_n 0, 1), (111, .bipush 64, 2), (113, .newarray .long, 2), (115, .putfield 51, 3), (118, .aload_n 0, 1), (119, .bipush 16, 2), (121, .newarray .long, 2)] : List (Nat × Instr × Nat)), decode cX12_init t.1 = .ok (t.2.1, t.2.2) := by decide +kernel
theorem DX12_init_1 : ∀ t ∈ ([(123, .putfield 54, 3), (126, .aload_n 0, 1), (127, .bipush 64, 2), (129, .newarray .int, 2), (131, .putfield 57, 3), (134, .aload_n 0, 1), (135, .bipush 64, 2), (137, .newarray .long, 2), (139, .putfield 60, 3), (142, .aload_n 0, 1), (143, .bipush 16, 2), (145, .newarray .int, 2), (147, .putfield 63, 3), (150, .aload_n 0, 1), (151, .sipush 1280, 3), (154, .newarray .long, 2), (156, .putfield 66, 3), (159, .aload_n 0, 1), (160, .sipush 1280, 3), (163, .newarray .long, 2), (165, .putfield 69, 3), (168, .aload_n 0, 1), (169, .bipush 20, 2), (171, .newarray .int, 2), (173, .putfield 72, 3), (176, .aload_n 0, 1), (177, .bipush 20, 2), (179, .newarray .int, 2), (181, .putfield 75, 3), (184, .aload_n 0, 1), (185, .bipush 20, 2), (187, .newarray .int, 2), (189, .putfield 78, 3), (192, .aload_n 0, 1), (193, .bipush 20, 2), (195, .newarray .int, 2), (197, .putfield 81, 3), (200, .aload_n 0, 1), (201, .iconst 4, 1), (202, .newarray .int, 2), (204, .dup, 1), (205, .iconst 0, 1), (206, .iconst (-1), 1), (207, .iastore, 1), (208, .dup, 1), (209, .iconst 1, 1), (210, .iconst (-1), 1), (211, .iastore, 1), (212, .dup, 1), (213, .iconst 2, 1), (214, .iconst (-1), 1), (215, .iastore, 1), (216, .dup, 1), (217, .iconst 3, 1), (218, .iconst (-1), 1), (219, .iastore, 1), (220, .putfield 84, 3), (223, .aload_n 0, 1), (224, .iconst 4, 1), (225, .newarray .int, 2)] : List (Nat × Instr × Nat)), decode cX12_init t.1 = .ok (t.2.1, t.2.2) := by decide +kernel
theorem DX12_init_2 : ∀ t ∈ ([(227, .putfield 87, 3), (230, .aload_n 0, 1), (231, .sipush 160, 3), (234, .newarray .long, 2), (236, .putfield 90, 3), (239, .aload_n 0, 1), (240, .iconst 3, 1), (241, .newarray .boolean, 2), (243, .putfield 93, 3), (246, .aload_n 0, 1), (247, .iconst 3, 1), (248, .newarray .int, 2), (250, .putfield 97, 3), (253, .aload_n 0, 1), (254, .iconst 3, 1), (255, .newarray .int, 2), (257, .putfield 100, 3), (260, .aload_n 0, 1), (261, .sipush 192, 3), (264, .newarray .long, 2), (266, .putfield 103, 3), (269, .return_, 1)] : List (Nat × Instr × Nat)), decode cX12_init t.1 = .ok (t.2.1, t.2.2) := by decide +kernel
def stX12_0 : OS := (oI os0 14 (-1))
def stX12_1 : OS := (oA stX12_0 46 (upd (stX12_0.2.2.1 46) (0 : Int32).toNatClampNeg (-1)))
def stX12_2 : OS := (oA stX12_1 46 (upd (stX12_1.2.2.1 46) (1 : Int32).toNatClampNeg (-1)))
def stX12_3 : OS := (oA stX12_2 46 (upd (stX12_2.2.2.1 46) (2 : Int32).toNatClampNeg (-1)))
/-- what a new X12 holds -/
def stX12 : OS := (oA stX12_3 46 (upd (stX12_3.2.2.1 46) (3 : Int32).toNatClampNeg (-1)))
abbrev rm_X12_init : Room := { frames := 1, cells := 30, slots := 8854, locals := 12 }
set_option maxHeartbeats 4000000 in
set_option maxRecDepth 100000 in
theorem c_X12_init {l : Launch} {G : mG} {h : mM} {a : Nat} (ha : h a = some (.inr (10, dflt LX12))) : cQ l G yX12_init cX12_init 1 none rm_X12_init [.ref a] h (mQv G (fun h1 => ∃ q : Nat → Nat, q 53 = a ∧ h1 = oset LX12 G q stX12 h ∧ oinj LX12 q ∧ ∀ k, k < 53 → ohas LX12 k = true → h (q k) = none)) := by
  refine mp_of (by decide +kernel) (Nat.le_of_ble_eq_true rfl) ?_
  intro p e s m below meth c X hr hlk hH hname ls hl
  replace hl : lv_has ls 1 [(0, .ref a)] := hl
  have hB := Bl.start (L := LX12) (G := G) (fun _ => 0) ha
  refine lv_aload_n X.x X.b (dk DX12_init_0 0 rfl) rfl (lv_at hl 0 rfl) ?_
  refine mr_objInit X hl.1 kM_X12_1 kI_bjectInit kC_bjectInit (dk DX12_init_0 1 rfl) (Nat.le_of_ble_eq_true rfl) (Nat.le_of_ble_eq_true rfl) ?_
  refine lv_aload_n X.x X.b (dk DX12_init_0 2 rfl) rfl (lv_at hl 0 rfl) ?_
  refine lv_bipush (v := 64) X.x X.b (dk DX12_init_0 3 rfl) (by decide) ?_
  refine mr_newJ (N := 64) X hH kA_FieldTypelong (by decide) rfl (by decide) (Nat.le_of_ble_eq_true rfl) (Nat.le_of_ble_eq_true rfl) (dk DX12_init_0 4 rfl) (fun x1 H hx hH => ?_)
  obtain ⟨M, hH, hB⟩ := lump hH (hB.arr hx (k := 3) (by decide) (by decide) (by decide) rfl)
  refine mr_putF X hH hB.1 hinX12 tyX12 tyX12_ok nmX12 rfl 3 (by decide) kF_X12_7 rfl hname rfl rfl rfl (by rw [pfs_len]; decide) (dk DX12_init_0 5 rfl) (fun H locs hH => ?_)
  obtain ⟨M, hH, hB⟩ := lump hH (hB.ref (k := 3) (t := 1) rfl (by simp [va_up]))
  refine lv_aload_n X.x X.b (dk DX12_init_0 6 rfl) rfl (lv_at hl 0 rfl) ?_
  refine lv_sipush (v := 700) X.x X.b (dk DX12_init_0 7 rfl) (by decide) ?_
  refine mr_newI (N := 700) X hH kA_FieldTypeint (by decide) rfl (by decide) (Nat.le_of_ble_eq_true rfl) (Nat.le_of_ble_eq_true rfl) (dk DX12_init_0 8 rfl) (fun x2 H hx hH => ?_)
  obtain ⟨M, hH, hB⟩ := lump hH (hB.arr hx (k := 4) (by decide) (by decide) (by decide) rfl)
  refine mr_putF X hH hB.1 hinX12 tyX12 tyX12_ok nmX12 rfl 4 (by decide) kF_X12_13 rfl hname rfl rfl rfl (by rw [pfs_len]; decide) (dk DX12_init_0 9 rfl) (fun H locs hH => ?_)
  obtain ⟨M, hH, hB⟩ := lump hH (hB.ref (k := 4) (t := 0) rfl (by simp [va_up]))
  refine lv_aload_n X.x X.b (dk DX12_init_0 10 rfl) rfl (lv_at hl 0 rfl) ?_
  refine lv_iconst (v := (-1)) X.x X.b (dk DX12_init_0 11 rfl) (by decide) ?_
  refine mr_put X hH hB.1 hinX12 tyX12 tyX12_ok nmX12 rfl 14 (by decide) kF_X12_17 rfl rfl rfl (by rw [pfs_len]; decide) (dk DX12_init_0 12 rfl) (fun H locs hH => ?_)
  obtain ⟨M, hH, hB⟩ := lump hH (hB.int (k := 14) rfl)
  refine lv_aload_n X.x X.b (dk DX12_init_0 13 rfl) rfl (lv_at hl 0 rfl) ?_
  refine lv_bipush (v := 64) X.x X.b (dk DX12_init_0 14 rfl) (by decide) ?_
  refine mr_newJ (N := 64) X hH kA_FieldTypelong (by decide) rfl (by decide) (Nat.le_of_ble_eq_true rfl) (Nat.le_of_ble_eq_true rfl) (dk DX12_init_0 15 rfl) (fun x3 H hx hH => ?_)
  obtain ⟨M, hH, hB⟩ := lump hH (hB.arr hx (k := 17) (by decide) (by decide) (by decide) rfl)
  refine mr_putF X hH hB.1 hinX12 tyX12 tyX12_ok nmX12 rfl 17 (by decide) kF_X12_21 rfl hname rfl rfl rfl (by rw [pfs_len]; decide) (dk DX12_init_0 16 rfl) (fun H locs hH => ?_)
  obtain ⟨M, hH, hB⟩ := lump hH (hB.ref (k := 17) (t := 1) rfl (by simp [va_up]))
  refine lv_aload_n X.x X.b (dk DX12_init_0 17 rfl) rfl (lv_at hl 0 rfl) ?_
  refine lv_bipush (v := 81) X.x X.b (dk DX12_init_0 18 rfl) (by decide) ?_
  refine mr_newI (N := 81) X hH kA_FieldTypeint (by decide) rfl (by decide) (Nat.le_of_ble_eq_true rfl) (Nat.le_of_ble_eq_true rfl) (dk DX12_init_0 19 rfl) (fun x4 H hx hH => ?_)
  obtain ⟨M, hH, hB⟩ := lump hH (hB.arr hx (k := 18) (by decide) (by decide) (by decide) rfl)
  refine mr_putF X hH hB.1 hinX12 tyX12 tyX12_ok nmX12 rfl 18 (by decide) kF_X12_24 rfl hname rfl rfl rfl (by rw [pfs_len]; decide) (dk DX12_init_0 20 rfl) (fun H locs hH => ?_)
  obtain ⟨M, hH, hB⟩ := lump hH (hB.ref (k := 18) (t := 0) rfl (by simp [va_up]))
  refine lv_aload_n X.x X.b (dk DX12_init_0 21 rfl) rfl (lv_at hl 0 rfl) ?_
  refine lv_bipush (v := 40) X.x X.b (dk DX12_init_0 22 rfl) (by decide) ?_
  refine mr_newI (N := 40) X hH kA_FieldTypeint (by decide) rfl (by decide) (Nat.le_of_ble_eq_true rfl) (Nat.le_of_ble_eq_true rfl) (dk DX12_init_0 23 rfl) (fun x5 H hx hH => ?_)
  obtain ⟨M, hH, hB⟩ := lump hH (hB.arr hx (k := 19) (by decide) (by decide) (by decide) rfl)
  refine mr_putF X hH hB.1 hinX12 tyX12 tyX12_ok nmX12 rfl 19 (by decide) kF_X12_27 rfl hname rfl rfl rfl (by rw [pfs_len]; decide) (dk DX12_init_0 24 rfl) (fun H locs hH => ?_)
  obtain ⟨M, hH, hB⟩ := lump hH (hB.ref (k := 19) (t := 0) rfl (by simp [va_up]))
  refine lv_aload_n X.x X.b (dk DX12_init_0 25 rfl) rfl (lv_at hl 0 rfl) ?_
  refine lv_bipush (v := 64) X.x X.b (dk DX12_init_0 26 rfl) (by decide) ?_
  refine mr_newJ (N := 64) X hH kA_FieldTypelong (by decide) rfl (by decide) (Nat.le_of_ble_eq_true rfl) (Nat.le_of_ble_eq_true rfl) (dk DX12_init_0 27 rfl) (fun x6 H hx hH => ?_)
  obtain ⟨M, hH, hB⟩ := lump hH (hB.arr hx (k := 20) (by decide) (by decide) (by decide) rfl)
  refine mr_putF X hH hB.1 hinX12 tyX12 tyX12_ok nmX12 rfl 20 (by decide) kF_X12_30 rfl hname rfl rfl rfl (by rw [pfs_len]; decide) (dk DX12_init_0 28 rfl) (fun H locs hH => ?_)
  obtain ⟨M, hH, hB⟩ := lump hH (hB.ref (k := 20) (t := 1) rfl (by simp [va_up]))
  refine lv_aload_n X.x X.b (dk DX12_init_0 29 rfl) rfl (lv_at hl 0 rfl) ?_
  refine lv_bipush (v := 64) X.x X.b (dk DX12_init_0 30 rfl) (by decide) ?_
  refine mr_newJ (N := 64) X hH kA_FieldTypelong (by decide) rfl (by decide) (Nat.le_of_ble_eq_true rfl) (Nat.le_of_ble_eq_true rfl) (dk DX12_init_0 31 rfl) (fun x7 H hx hH => ?_)
  obtain ⟨M, hH, hB⟩ := lump hH (hB.arr hx (k := 25) (by decide) (by decide) (by decide) rfl)
  refine mr_putF X hH hB.1 hinX12 tyX12 tyX12_ok nmX12 rfl 25 (by decide) kF_X12_33 rfl hname rfl rfl rfl (by rw [pfs_len]; decide) (dk DX12_init_0 32 rfl) (fun H locs hH => ?_)
  obtain ⟨M, hH, hB⟩ := lump hH (hB.ref (k := 25) (t := 1) rfl (by simp [va_up]))
  refine lv_aload_n X.x X.b (dk DX12_init_0 33 rfl) rfl (lv_at hl 0 rfl) ?_
  refine lv_bipush (v := 64) X.x X.b (dk DX12_init_0 34 rfl) (by decide) ?_
  refine mr_newJ (N := 64) X hH kA_FieldTypelong (by decide) rfl (by decide) (Nat.le_of_ble_eq_true rfl) (Nat.le_of_ble_eq_true rfl) (dk DX12_init_0 35 rfl) (fun x8 H hx hH => ?_)
  obtain ⟨M, hH, hB⟩ := lump hH (hB.arr hx (k := 26) (by decide) (by decide) (by decide) rfl)
  refine mr_putF X hH hB.1 hinX12 tyX12 tyX12_ok nmX12 rfl 26 (by decide) kF_X12_36 rfl hname rfl rfl rfl (by rw [pfs_len]; decide) (dk DX12_init_0 36 rfl) (fun H locs hH => ?_)
  obtain ⟨M, hH, hB⟩ := lump hH (hB.ref (k := 26) (t := 1) rfl (by simp [va_up]))
  refine lv_aload_n X.x X.b (dk DX12_init_0 37 rfl) rfl (lv_at hl 0 rfl) ?_
  refine lv_sipush (v := 128) X.x X.b (dk DX12_init_0 38 rfl) (by decide) ?_
  refine mr_newI (N := 128) X hH kA_FieldTypeint (by decide) rfl (by decide) (Nat.le_of_ble_eq_true rfl) (Nat.le_of_ble_eq_true rfl) (dk DX12_init_0 39 rfl) (fun x9 H hx hH => ?_)
  obtain ⟨M, hH, hB⟩ := lump hH (hB.arr hx (k := 27) (by decide) (by decide) (by decide) rfl)
  refine mr_putF X hH hB.1 hinX12 tyX12 tyX12_ok nmX12 rfl 27 (by decide) kF_X12_39 rfl hname rfl rfl rfl (by rw [pfs_len]; decide) (dk DX12_init_0 40 rfl) (fun H locs hH => ?_)
  obtain ⟨M, hH, hB⟩ := lump hH (hB.ref (k := 27) (t := 0) rfl (by simp [va_up]))
  refine lv_aload_n X.x X.b (dk DX12_init_0 41 rfl) rfl (lv_at hl 0 rfl) ?_
  refine lv_sipush (v := 128) X.x X.b (dk DX12_init_0 42 rfl) (by decide) ?_
  refine mr_newI (N := 128) X hH kA_FieldTypeint (by decide) rfl (by decide) (Nat.le_of_ble_eq_true rfl) (Nat.le_of_ble_eq_true rfl) (dk DX12_init_0 43 rfl) (fun x10 H hx hH => ?_)
  obtain ⟨M, hH, hB⟩ := lump hH (hB.arr hx (k := 28) (by decide) (by decide) (by decide) rfl)
  refine mr_putF X hH hB.1 hinX12 tyX12 tyX12_ok nmX12 rfl 28 (by decide) kF_X12_42 rfl hname rfl rfl rfl (by rw [pfs_len]; decide) (dk DX12_init_0 44 rfl) (fun H locs hH => ?_)
  obtain ⟨M, hH, hB⟩ := lump hH (hB.ref (k := 28) (t := 0) rfl (by simp [va_up]))
  refine lv_aload_n X.x X.b (dk DX12_init_0 45 rfl) rfl (lv_at hl 0 rfl) ?_
  refine lv_sipush (v := 128) X.x X.b (dk DX12_init_0 46 rfl) (by decide) ?_
  refine mr_newI (N := 128) X hH kA_FieldTypeint (by decide) rfl (by decide) (Nat.le_of_ble_eq_true rfl) (Nat.le_of_ble_eq_true rfl) (dk DX12_init_0 47 rfl) (fun x11 H hx hH => ?_)
  obtain ⟨M, hH, hB⟩ := lump hH (hB.arr hx (k := 29) (by decide) (by decide) (by decide) rfl)
  refine mr_putF X hH hB.1 hinX12 tyX12 tyX12_ok nmX12 rfl 29 (by decide) kF_X12_45 rfl hname rfl rfl rfl (by rw [pfs_len]; decide) (dk DX12_init_0 48 rfl) (fun H locs hH => ?_)
  obtain ⟨M, hH, hB⟩ := lump hH (hB.ref (k := 29) (t := 0) rfl (by simp [va_up]))
  refine lv_aload_n X.x X.b (dk DX12_init_0 49 rfl) rfl (lv_at hl 0 rfl) ?_
  refine lv_sipush (v := 4096) X.x X.b (dk DX12_init_0 50 rfl) (by decide) ?_
  refine mr_newI (N := 4096) X hH kA_FieldTypeint (by decide) rfl (by decide) (Nat.le_of_ble_eq_true rfl) (Nat.le_of_ble_eq_true rfl) (dk DX12_init_0 51 rfl) (fun x12 H hx hH => ?_)
  obtain ⟨M, hH, hB⟩ := lump hH (hB.arr hx (k := 30) (by decide) (by decide) (by decide) rfl)
  refine mr_putF X hH hB.1 hinX12 tyX12 tyX12_ok nmX12 rfl 30 (by decide) kF_X12_48 rfl hname rfl rfl rfl (by rw [pfs_len]; decide) (dk DX12_init_0 52 rfl) (fun H locs hH => ?_)
  obtain ⟨M, hH, hB⟩ := lump hH (hB.ref (k := 30) (t := 0) rfl (by simp [va_up]))
  refine lv_aload_n X.x X.b (dk DX12_init_0 53 rfl) rfl (lv_at hl 0 rfl) ?_
  refine lv_bipush (v := 64) X.x X.b (dk DX12_init_0 54 rfl) (by decide) ?_
  refine mr_newJ (N := 64) X hH kA_FieldTypelong (by decide) rfl (by decide) (Nat.le_of_ble_eq_true rfl) (Nat.le_of_ble_eq_true rfl) (dk DX12_init_0 55 rfl) (fun x13 H hx hH => ?_)
  obtain ⟨M, hH, hB⟩ := lump hH (hB.arr hx (k := 31) (by decide) (by decide) (by decide) rfl)
  refine mr_putF X hH hB.1 hinX12 tyX12 tyX12_ok nmX12 rfl 31 (by decide) kF_X12_51 rfl hname rfl rfl rfl (by rw [pfs_len]; decide) (dk DX12_init_0 56 rfl) (fun H locs hH => ?_)
  obtain ⟨M, hH, hB⟩ := lump hH (hB.ref (k := 31) (t := 1) rfl (by simp [va_up]))
  refine lv_aload_n X.x X.b (dk DX12_init_0 57 rfl) rfl (lv_at hl 0 rfl) ?_
  refine lv_bipush (v := 16) X.x X.b (dk DX12_init_0 58 rfl) (by decide) ?_
  refine mr_newJ (N := 16) X hH kA_FieldTypelong (by decide) rfl (by decide) (Nat.le_of_ble_eq_true rfl) (Nat.le_of_ble_eq_true rfl) (dk DX12_init_0 59 rfl) (fun x14 H hx hH => ?_)
  obtain ⟨M, hH, hB⟩ := lump hH (hB.arr hx (k := 32) (by decide) (by decide) (by decide) rfl)
  refine mr_putF X hH hB.1 hinX12 tyX12 tyX12_ok nmX12 rfl 32 (by decide) kF_X12_54 rfl hname rfl rfl rfl (by rw [pfs_len]; decide) (dk DX12_init_1 0 rfl) (fun H locs hH => ?_)
  obtain ⟨M, hH, hB⟩ := lump hH (hB.ref (k := 32) (t := 1) rfl (by simp [va_up]))
  refine lv_aload_n X.x X.b (dk DX12_init_1 1 rfl) rfl (lv_at hl 0 rfl) ?_
  refine lv_bipush (v := 64) X.x X.b (dk DX12_init_1 2 rfl) (by decide) ?_
  refine mr_newI (N := 64) X hH kA_FieldTypeint (by decide) rfl (by decide) (Nat.le_of_ble_eq_true rfl) (Nat.le_of_ble_eq_true rfl) (dk DX12_init_1 3 rfl) (fun x15 H hx hH => ?_)
  obtain ⟨M, hH, hB⟩ := lump hH (hB.arr hx (k := 33) (by decide) (by decide) (by decide) rfl)
  refine mr_putF X hH hB.1 hinX12 tyX12 tyX12_ok nmX12 rfl 33 (by decide) kF_X12_57 rfl hname rfl rfl rfl (by rw [pfs_len]; decide) (dk DX12_init_1 4 rfl) (fun H locs hH => ?_)
  obtain ⟨M, hH, hB⟩ := lump hH (hB.ref (k := 33) (t := 0) rfl (by simp [va_up]))
  refine lv_aload_n X.x X.b (dk DX12_init_1 5 rfl) rfl (lv_at hl 0 rfl) ?_
  refine lv_bipush (v := 64) X.x X.b (dk DX12_init_1 6 rfl) (by decide) ?_
  refine mr_newJ (N := 64) X hH kA_FieldTypelong (by decide) rfl (by decide) (Nat.le_of_ble_eq_true rfl) (Nat.le_of_ble_eq_true rfl) (dk DX12_init_1 7 rfl) (fun x16 H hx hH => ?_)
  obtain ⟨M, hH, hB⟩ := lump hH (hB.arr hx (k := 34) (by decide) (by decide) (by decide) rfl)
  refine mr_putF X hH hB.1 hinX12 tyX12 tyX12_ok nmX12 rfl 34 (by decide) kF_X12_60 rfl hname rfl rfl rfl (by rw [pfs_len]; decide) (dk DX12_init_1 8 rfl) (fun H locs hH => ?_)
  obtain ⟨M, hH, hB⟩ := lump hH (hB.ref (k := 34) (t := 1) rfl (by simp [va_up]))
  refine lv_aload_n X.x X.b (dk DX12_init_1 9 rfl) rfl (lv_at hl 0 rfl) ?_
  refine lv_bipush (v := 16) X.x X.b (dk DX12_init_1 10 rfl) (by decide) ?_
  refine mr_newI (N := 16) X hH kA_FieldTypeint (by decide) rfl (by decide) (Nat.le_of_ble_eq_true rfl) (Nat.le_of_ble_eq_true rfl) (dk DX12_init_1 11 rfl) (fun x17 H hx hH => ?_)
  obtain ⟨M, hH, hB⟩ := lump hH (hB.arr hx (k := 36) (by decide) (by decide) (by decide) rfl)
  refine mr_putF X hH hB.1 hinX12 tyX12 tyX12_ok nmX12 rfl 36 (by decide) kF_X12_63 rfl hname rfl rfl rfl (by rw [pfs_len]; decide) (dk DX12_init_1 12 rfl) (fun H locs hH => ?_)
  obtain ⟨M, hH, hB⟩ := lump hH (hB.ref (k := 36) (t := 0) rfl (by simp [va_up]))
  refine lv_aload_n X.x X.b (dk DX12_init_1 13 rfl) rfl (lv_at hl 0 rfl) ?_
  refine lv_sipush (v := 1280) X.x X.b (dk DX12_init_1 14 rfl) (by decide) ?_
  refine mr_newJ (N := 1280) X hH kA_FieldTypelong (by decide) rfl (by decide) (Nat.le_of_ble_eq_true rfl) (Nat.le_of_ble_eq_true rfl) (dk DX12_init_1 15 rfl) (fun x18 H hx hH => ?_)
  obtain ⟨M, hH, hB⟩ := lump hH (hB.arr hx (k := 38) (by decide) (by decide) (by decide) rfl)
  refine mr_putF X hH hB.1 hinX12 tyX12 tyX12_ok nmX12 rfl 38 (by decide) kF_X12_66 rfl hname rfl rfl rfl (by rw [pfs_len]; decide) (dk DX12_init_1 16 rfl) (fun H locs hH => ?_)
  obtain ⟨M, hH, hB⟩ := lump hH (hB.ref (k := 38) (t := 1) rfl (by simp [va_up]))
  refine lv_aload_n X.x X.b (dk DX12_init_1 17 rfl) rfl (lv_at hl 0 rfl) ?_
  refine lv_sipush (v := 1280) X.x X.b (dk DX12_init_1 18 rfl) (by decide) ?_
  refine mr_newJ (N := 1280) X hH kA_FieldTypelong (by decide) rfl (by decide) (Nat.le_of_ble_eq_true rfl) (Nat.le_of_ble_eq_true rfl) (dk DX12_init_1 19 rfl) (fun x19 H hx hH => ?_)
  obtain ⟨M, hH, hB⟩ := lump hH (hB.arr hx (k := 39) (by decide) (by decide) (by decide) rfl)
  refine mr_putF X hH hB.1 hinX12 tyX12 tyX12_ok nmX12 rfl 39 (by decide) kF_X12_69 rfl hname rfl rfl rfl (by rw [pfs_len]; decide) (dk DX12_init_1 20 rfl) (fun H locs hH => ?_)
  obtain ⟨M, hH, hB⟩ := lump hH (hB.ref (k := 39) (t := 1) rfl (by simp [va_up]))
  refine lv_aload_n X.x X.b (dk DX12_init_1 21 rfl) rfl (lv_at hl 0 rfl) ?_
  refine lv_bipush (v := 20) X.x X.b (dk DX12_init_1 22 rfl) (by decide) ?_
  refine mr_newI (N := 20) X hH kA_FieldTypeint (by decide) rfl (by decide) (Nat.le_of_ble_eq_true rfl) (Nat.le_of_ble_eq_true rfl) (dk DX12_init_1 23 rfl) (fun x20 H hx hH => ?_)
  obtain ⟨M, hH, hB⟩ := lump hH (hB.arr hx (k := 40) (by decide) (by decide) (by decide) rfl)
  refine mr_putF X hH hB.1 hinX12 tyX12 tyX12_ok nmX12 rfl 40 (by decide) kF_X12_72 rfl hname rfl rfl rfl (by rw [pfs_len]; decide) (dk DX12_init_1 24 rfl) (fun H locs hH => ?_)
  obtain ⟨M, hH, hB⟩ := lump hH (hB.ref (k := 40) (t := 0) rfl (by simp [va_up]))
  refine lv_aload_n X.x X.b (dk DX12_init_1 25 rfl) rfl (lv_at hl 0 rfl) ?_
  refine lv_bipush (v := 20) X.x X.b (dk DX12_init_1 26 rfl) (by decide) ?_
  refine mr_newI (N := 20) X hH kA_FieldTypeint (by decide) rfl (by decide) (Nat.le_of_ble_eq_true rfl) (Nat.le_of_ble_eq_true rfl) (dk DX12_init_1 27 rfl) (fun x21 H hx hH => ?_)
  obtain ⟨M, hH, hB⟩ := lump hH (hB.arr hx (k := 41) (by decide) (by decide) (by decide) rfl)
  refine mr_putF X hH hB.1 hinX12 tyX12 tyX12_ok nmX12 rfl 41 (by decide) kF_X12_75 rfl hname rfl rfl rfl (by rw [pfs_len]; decide) (dk DX12_init_1 28 rfl) (fun H locs hH => ?_)
  obtain ⟨M, hH, hB⟩ := lump hH (hB.ref (k := 41) (t := 0) rfl (by simp [va_up]))
  refine lv_aload_n X.x X.b (dk DX12_init_1 29 rfl) rfl (lv_at hl 0 rfl) ?_
  refine lv_bipush (v := 20) X.x X.b (dk DX12_init_1 30 rfl) (by decide) ?_
  refine mr_newI (N := 20) X hH kA_FieldTypeint (by decide) rfl (by decide) (Nat.le_of_ble_eq_true rfl) (Nat.le_of_ble_eq_true rfl) (dk DX12_init_1 31 rfl) (fun x22 H hx hH => ?_)
  obtain ⟨M, hH, hB⟩ := lump hH (hB.arr hx (k := 42) (by decide) (by decide) (by decide) rfl)
  refine mr_putF X hH hB.1 hinX12 tyX12 tyX12_ok nmX12 rfl 42 (by decide) kF_X12_78 rfl hname rfl rfl rfl (by rw [pfs_len]; decide) (dk DX12_init_1 32 rfl) (fun H locs hH => ?_)
  obtain ⟨M, hH, hB⟩ := lump hH (hB.ref (k := 42) (t := 0) rfl (by simp [va_up]))
  refine lv_aload_n X.x X.b (dk DX12_init_1 33 rfl) rfl (lv_at hl 0 rfl) ?_
  refine lv_bipush (v := 20) X.x X.b (dk DX12_init_1 34 rfl) (by decide) ?_
  refine mr_newI (N := 20) X hH kA_FieldTypeint (by decide) rfl (by decide) (Nat.le_of_ble_eq_true rfl) (Nat.le_of_ble_eq_true rfl) (dk DX12_init_1 35 rfl) (fun x23 H hx hH => ?_)
  obtain ⟨M, hH, hB⟩ := lump hH (hB.arr hx (k := 43) (by decide) (by decide) (by decide) rfl)
  refine mr_putF X hH hB.1 hinX12 tyX12 tyX12_ok nmX12 rfl 43 (by decide) kF_X12_81 rfl hname rfl rfl rfl (by rw [pfs_len]; decide) (dk DX12_init_1 36 rfl) (fun H locs hH => ?_)
  obtain ⟨M, hH, hB⟩ := lump hH (hB.ref (k := 43) (t := 0) rfl (by simp [va_up]))
  refine lv_aload_n X.x X.b (dk DX12_init_1 37 rfl) rfl (lv_at hl 0 rfl) ?_
  refine lv_iconst (v := 4) X.x X.b (dk DX12_init_1 38 rfl) (by decide) ?_
  refine mr_newI (N := 4) X hH kA_FieldTypeint (by decide) rfl (by decide) (Nat.le_of_ble_eq_true rfl) (Nat.le_of_ble_eq_true rfl) (dk DX12_init_1 39 rfl) (fun x24 H hx hH => ?_)
  obtain ⟨M, hH, hB⟩ := lump hH (hB.arr hx (k := 46) (by decide) (by decide) (by decide) rfl)
  refine lv_dup X.x X.b (dk DX12_init_1 40 rfl) rfl ?_
  refine lv_iconst (v := 0) X.x X.b (dk DX12_init_1 41 rfl) (by decide) ?_
  refine lv_iconst (v := (-1)) X.x X.b (dk DX12_init_1 42 rfl) (by decide) ?_
  refine mr_iast X hH (a := x24) (n := 4) (hB.at (k := 46) (by decide) rfl) (vp_in_nI (n := 0) (by decide) (by decide)) (dk DX12_init_1 43 rfl) (fun H locs hH => ?_)
  obtain ⟨M, hH, hB⟩ := lump hH (hB.cell (k := 46) (by decide) rfl _)
  refine lv_dup X.x X.b (dk DX12_init_1 44 rfl) rfl ?_
  refine lv_iconst (v := 1) X.x X.b (dk DX12_init_1 45 rfl) (by decide) ?_
  refine lv_iconst (v := (-1)) X.x X.b (dk DX12_init_1 46 rfl) (by decide) ?_
  refine mr_iast X hH (a := x24) (n := 4) (hB.at (k := 46) (by decide) rfl) (vp_in_nI (n := 1) (by decide) (by decide)) (dk DX12_init_1 47 rfl) (fun H locs hH => ?_)
  obtain ⟨M, hH, hB⟩ := lump hH (hB.cell (k := 46) (by decide) rfl _)
  refine lv_dup X.x X.b (dk DX12_init_1 48 rfl) rfl ?_
  refine lv_iconst (v := 2) X.x X.b (dk DX12_init_1 49 rfl) (by decide) ?_
  refine lv_iconst (v := (-1)) X.x X.b (dk DX12_init_1 50 rfl) (by decide) ?_
  refine mr_iast X hH (a := x24) (n := 4) (hB.at (k := 46) (by decide) rfl) (vp_in_nI (n := 2) (by decide) (by decide)) (dk DX12_init_1 51 rfl) (fun H locs hH => ?_)
  obtain ⟨M, hH, hB⟩ := lump hH (hB.cell (k := 46) (by decide) rfl _)
  refine lv_dup X.x X.b (dk DX12_init_1 52 rfl) rfl ?_
  refine lv_iconst (v := 3) X.x X.b (dk DX12_init_1 53 rfl) (by decide) ?_
  refine lv_iconst (v := (-1)) X.x X.b (dk DX12_init_1 54 rfl) (by decide) ?_
  refine mr_iast X hH (a := x24) (n := 4) (hB.at (k := 46) (by decide) rfl) (vp_in_nI (n := 3) (by decide) (by decide)) (dk DX12_init_1 55 rfl) (fun H locs hH => ?_)
  obtain ⟨M, hH, hB⟩ := lump hH (hB.cell (k := 46) (by decide) rfl _)
  refine mr_putF X hH hB.1 hinX12 tyX12 tyX12_ok nmX12 rfl 46 (by decide) kF_X12_84 rfl hname rfl rfl rfl (by rw [pfs_len]; decide) (dk DX12_init_1 56 rfl) (fun H locs hH => ?_)
  obtain ⟨M, hH, hB⟩ := lump hH (hB.ref (k := 46) (t := 0) rfl (by simp [va_up]))
  refine lv_aload_n X.x X.b (dk DX12_init_1 57 rfl) rfl (lv_at hl 0 rfl) ?_
  refine lv_iconst (v := 4) X.x X.b (dk DX12_init_1 58 rfl) (by decide) ?_
  refine mr_newI (N := 4) X hH kA_FieldTypeint (by decide) rfl (by decide) (Nat.le_of_ble_eq_true rfl) (Nat.le_of_ble_eq_true rfl) (dk DX12_init_1 59 rfl) (fun x25 H hx hH => ?_)
  obtain ⟨M, hH, hB⟩ := lump hH (hB.arr hx (k := 47) (by decide) (by decide) (by decide) rfl)
  refine mr_putF X hH hB.1 hinX12 tyX12 tyX12_ok nmX12 rfl 47 (by decide) kF_X12_87 rfl hname rfl rfl rfl (by rw [pfs_len]; decide) (dk DX12_init_2 0 rfl) (fun H locs hH => ?_)
  obtain ⟨M, hH, hB⟩ := lump hH (hB.ref (k := 47) (t := 0) rfl (by simp [va_up]))
  refine lv_aload_n X.x X.b (dk DX12_init_2 1 rfl) rfl (lv_at hl 0 rfl) ?_
  refine lv_sipush (v := 160) X.x X.b (dk DX12_init_2 2 rfl) (by decide) ?_
  refine mr_newJ (N := 160) X hH kA_FieldTypelong (by decide) rfl (by decide) (Nat.le_of_ble_eq_true rfl) (Nat.le_of_ble_eq_true rfl) (dk DX12_init_2 3 rfl) (fun x26 H hx hH => ?_)
  obtain ⟨M, hH, hB⟩ := lump hH (hB.arr hx (k := 48) (by decide) (by decide) (by decide) rfl)
  refine mr_putF X hH hB.1 hinX12 tyX12 tyX12_ok nmX12 rfl 48 (by decide) kF_X12_90 rfl hname rfl rfl rfl (by rw [pfs_len]; decide) (dk DX12_init_2 4 rfl) (fun H locs hH => ?_)
  obtain ⟨M, hH, hB⟩ := lump hH (hB.ref (k := 48) (t := 1) rfl (by simp [va_up]))
  refine lv_aload_n X.x X.b (dk DX12_init_2 5 rfl) rfl (lv_at hl 0 rfl) ?_
  refine lv_iconst (v := 3) X.x X.b (dk DX12_init_2 6 rfl) (by decide) ?_
  refine mr_newZ (N := 3) X hH kA_FieldTypeboolean (by decide) rfl (by decide) (Nat.le_of_ble_eq_true rfl) (Nat.le_of_ble_eq_true rfl) (dk DX12_init_2 7 rfl) (fun x27 H hx hH => ?_)
  obtain ⟨M, hH, hB⟩ := lump hH (hB.arr hx (k := 49) (by decide) (by decide) (by decide) rfl)
  refine mr_putF X hH hB.1 hinX12 tyX12 tyX12_ok nmX12 rfl 49 (by decide) kF_X12_93 rfl hname rfl rfl rfl (by rw [pfs_len]; decide) (dk DX12_init_2 8 rfl) (fun H locs hH => ?_)
  obtain ⟨M, hH, hB⟩ := lump hH (hB.ref (k := 49) (t := 3) rfl (by simp [va_up]))
  refine lv_aload_n X.x X.b (dk DX12_init_2 9 rfl) rfl (lv_at hl 0 rfl) ?_
  refine lv_iconst (v := 3) X.x X.b (dk DX12_init_2 10 rfl) (by decide) ?_
  refine mr_newI (N := 3) X hH kA_FieldTypeint (by decide) rfl (by decide) (Nat.le_of_ble_eq_true rfl) (Nat.le_of_ble_eq_true rfl) (dk DX12_init_2 11 rfl) (fun x28 H hx hH => ?_)
  obtain ⟨M, hH, hB⟩ := lump hH (hB.arr hx (k := 50) (by decide) (by decide) (by decide) rfl)
  refine mr_putF X hH hB.1 hinX12 tyX12 tyX12_ok nmX12 rfl 50 (by decide) kF_X12_97 rfl hname rfl rfl rfl (by rw [pfs_len]; decide) (dk DX12_init_2 12 rfl) (fun H locs hH => ?_)
  obtain ⟨M, hH, hB⟩ := lump hH (hB.ref (k := 50) (t := 0) rfl (by simp [va_up]))
  refine lv_aload_n X.x X.b (dk DX12_init_2 13 rfl) rfl (lv_at hl 0 rfl) ?_
  refine lv_iconst (v := 3) X.x X.b (dk DX12_init_2 14 rfl) (by decide) ?_
  refine mr_newI (N := 3) X hH kA_FieldTypeint (by decide) rfl (by decide) (Nat.le_of_ble_eq_true rfl) (Nat.le_of_ble_eq_true rfl) (dk DX12_init_2 15 rfl) (fun x29 H hx hH => ?_)
  obtain ⟨M, hH, hB⟩ := lump hH (hB.arr hx (k := 51) (by decide) (by decide) (by decide) rfl)
  refine mr_putF X hH hB.1 hinX12 tyX12 tyX12_ok nmX12 rfl 51 (by decide) kF_X12_100 rfl hname rfl rfl rfl (by rw [pfs_len]; decide) (dk DX12_init_2 16 rfl) (fun H locs hH => ?_)
  obtain ⟨M, hH, hB⟩ := lump hH (hB.ref (k := 51) (t := 0) rfl (by simp [va_up]))
  refine lv_aload_n X.x X.b (dk DX12_init_2 17 rfl) rfl (lv_at hl 0 rfl) ?_
  refine lv_sipush (v := 192) X.x X.b (dk DX12_init_2 18 rfl) (by decide) ?_
  refine mr_newJ (N := 192) X hH kA_FieldTypelong (by decide) rfl (by decide) (Nat.le_of_ble_eq_true rfl) (Nat.le_of_ble_eq_true rfl) (dk DX12_init_2 19 rfl) (fun x30 H hx hH => ?_)
  obtain ⟨M, hH, hB⟩ := lump hH (hB.arr hx (k := 52) (by decide) (by decide) (by decide) rfl)
  refine mr_putF X hH hB.1 hinX12 tyX12 tyX12_ok nmX12 rfl 52 (by decide) kF_X12_103 rfl hname rfl rfl rfl (by rw [pfs_len]; decide) (dk DX12_init_2 20 rfl) (fun H locs hH => ?_)
  obtain ⟨M, hH, hB⟩ := lump hH (hB.ref (k := 52) (t := 1) rfl (by simp [va_up]))
  obtain ⟨hM, hq, hnew⟩ := hB.done (by decide +kernel)
  subst hM
  exact mr_vret X hr hlk hH ⟨_, va_up_s, rfl, hq, hnew⟩ (dk DX12_init_2 21 rfl)
