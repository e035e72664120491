-- X6_greatestCap
abbrev rm_X6_greatestCap : Room := { frames := 45, cells := 0, slots := 0, locals := 1484 }
theorem hd_X6_greatestCap : mHd yX6_greatestCap 1 := ⟨by decide +kernel, by decide +kernel, by decide +kernel⟩
theorem DX6_greatestCap_0 : ∀ t ∈ ([(0, .aload_n 0, 1), (1, .getfield 25, 3), (4, .bipush 27, 2), (6, .if_icmp .le 7, 3), (9, .ldc2_w 44, 3), (12, .lreturn, 1), (13, .aload_n 0, 1), (14, .aload_n 0, 1), (15, .invokevirtual 53, 3), (18, .iconst 0, 1), (19, .invokestatic 57, 3), (22, .istore_n 1, 1), (23, .aload_n 0, 1), (24, .invokevirtual 53, 3), (27, .lstore_n 2, 1), (28, .lconst 0, 1), (29, .lstore 4, 2), (31, .aload_n 0, 1), (32, .getfield 25, 3), (35, .iconst 1, 1), (36, .isub, 1), (37, .istore 6, 2), (39, .iload 6, 2), (41, .ifCond .lt 64, 3), (44, .lload_n 2, 1), (45, .iload 6, 2), (47, .invokestatic 46, 3), (50, .ifCond .eq 49, 3), (53, .lload_n 2, 1), (54, .lconst 1, 1), (55, .iload 6, 2), (57, .lshl, 1), (58, .ldc2_w 44, 3), (61, .lxor, 1), (62, .land, 1), (63, .lstore_n 2, 1), (64, .aload_n 0, 1), (65, .lload_n 2, 1), (66, .iconst 0, 1), (67, .invokestatic 57, 3), (70, .iload_n 1, 1), (71, .if_icmp .ge 28, 3), (74, .lload 4, 2), (76, .lconst 1, 1), (77, .iload 6, 2), (79, .lshl, 1), (80, .lor, 1), (81, .lstore 4, 2), (83, .lload_n 2, 1), (84, .aload_n 0, 1), (85, .iload 6, 2), (87, .invokevirtual 50, 3), (90, .ldc2_w 44, 3), (93, .lxor, 1), (94, .land, 1), (95, .lstore_n 2, 1), (96, .iinc 1 (-1), 3), (99, .iinc 6 (-1), 3), (102, .goto (-63), 3), (105, .lload 4, 2)] : List (Nat × Instr × Nat)), decode cX6_greatestCap t.1 = .ok (t.2.1, t.2.2) := by decide +kernel
theorem DX6_greatestCap_1 : ∀ t ∈ ([(107, .lreturn, 1)] : List (Nat × Instr × Nat)), decode cX6_greatestCap t.1 = .ok (t.2.1, t.2.2) := by decide +kernel
noncomputable def f_X6_greatestCap_39 (s_o1 : OS) : (Int32 × Int64 × Int64 × Int32) → Option ((Int32 × Int64 × Int64 × Int32) ⊕ (Int64)) := fun z => match z with | (b1, b2, b4, b6) => (if b6 < 0 then some (.inr b4) else (f_X10_has b2 b6).bind (fun x14 => (if x14 = 0 then bnd (b6 + (-1) : Int32) (fun v18 => some (.inl ((b1, b2, b4, v18)))) else bnd (b2 &&& ((((1 : Int64)) <<< ((b6 : Int32).toInt64 &&& 63)) ^^^ ((-1))) : Int64) (fun v20 => (f_X6_mostUnjoined 40 s_o1 v20 0).bind (fun x22 => (if b1 ≤ x22 then bnd (b6 + (-1) : Int32) (fun v26 => some (.inl ((b1, v20, b4, v26)))) else bnd (b4 ||| (((1 : Int64)) <<< ((b6 : Int32).toInt64 &&& 63)) : Int64) (fun v28 => (f_X10_nearAt s_o1 b6).bind (fun x30 => bnd (v20 &&& (x30 ^^^ ((-1))) : Int64) (fun v33 => bnd (b1 + (-1) : Int32) (fun v35 => bnd (b6 + (-1) : Int32) (fun v37 => some (.inl ((v35, v33, v28, v37))))))))))))))
noncomputable def f_X6_greatestCap (st1 : OS) : Option (Int64) := (if (st1.1 0) ≤ 27 then (f_X10_all st1).bind (fun x2 => (f_X6_mostUnjoined 40 st1 x2 0).bind (fun x5 => (f_X10_all st1).bind (fun x8 => bnd ((st1.1 0) - 1 : Int32) (fun v11 => (lpv (f_X6_greatestCap_39 st1) ((x5, x8, 0, v11))).bind (fun x39 => some x39))))) else some ((-1)))
set_option maxHeartbeats 4000000 in
set_option maxRecDepth 100000 in
theorem w_X6_greatestCap_39 {p : Program} {l : Launch} {e : Env} {s : State} {m : MethodId} {args : Array Value} {below : List Frame} {meth : Method} {c : Code} {Q : State → Prop} {G : mG} {h : mM} {q1 : Nat → Nat} (hq1 : oinj LX10 q1) (X : mX G p m c cX6_greatestCap 7 s args RX6) (s_o1 : OS) : ∀ (z : Int32 × Int64 × Int64 × Int32) (r : Int64), lpv (f_X6_greatestCap_39 s_o1) z = some r → ∀ (H : Heap) (locs : List Loc) (ls : Array Slot), mH G (oset LX10 G q1 s_o1 h) s.heap H locs → lv_has ls 7 [(0, .ref (q1 5)), (1, .int z.1), (2, .long z.2.1), (4, .long z.2.2.1), (6, .int z.2.2.2)] → (∀ (H : Heap) (locs : List Loc) (ls : Array Slot), mH G (oset LX10 G q1 s_o1 h) s.heap H locs → lv_has ls 7 [(4, .long r)] → W p l e rm_X6_greatestCap s m args below meth c H locs 0 0 Q (F0 m 105 ls [])) → W p l e rm_X6_greatestCap s m args below meth c H locs 0 0 Q (F0 m 39 ls []) := by
  refine lpv_rec ?_
  intro z r x hF hx H locs ls hH hl K0
  obtain ⟨b1, b2, b4, b6⟩ := z
  dsimp only [f_X6_greatestCap_39] at hF
  try dsimp only at hH hl
  refine lv_iload X.x X.b (dk DX6_greatestCap_0 22 rfl) (lv_at hl 4 rfl) ?_
  refine lv_if_lt (tgt := 105) X.x X.b (dk DX6_greatestCap_0 23 rfl) (by decide) (fun c13 => ?_) (fun c13 => ?_)
  · replace hF := if_t hF c13
    have hr9 := lp_r hF hx
    subst hr9
    exact K0 _ _ _ hH (lv_sub hl [3] rfl)
  · replace hF := if_f hF c13
    refine lv_lload_n X.x X.b (dk DX6_greatestCap_0 24 rfl) rfl (lv_at hl 2 rfl) ?_
    refine lv_iload X.x X.b (dk DX6_greatestCap_0 25 rfl) (lv_at hl 4 rfl) ?_
    obtain ⟨x14, e15, hF⟩ := bd hF
    refine mr_ci0 hH ⟨rfl, rfl⟩ (mr_runS (As := [.long b2, .int b6]) (rest := []) X hH (c_X10_has e15) kM_X6_46 kT_X10_has kN_X10 kC_X10_has hd_X10_has ⟨Nat.le_of_ble_eq_true rfl, Nat.le_of_ble_eq_true rfl⟩ rfl hl.1 (Nat.le_of_ble_eq_true rfl) (dk DX6_greatestCap_0 26 rfl) ⟨Nat.zero_le _, Nat.zero_le _⟩) (fun r h1 H locs hp hH => ?_)
    obtain ⟨hr1, hr2⟩ := hp; rw [hr1]; rw [hr2] at hH; clear hr1 hr2
    refine lv_if_eq (tgt := 99) X.x X.b (dk DX6_greatestCap_0 27 rfl) (by decide) (fun c17 => ?_) (fun c17 => ?_)
    · replace hF := if_t hF c17
      obtain ⟨v18, e19⟩ : ∃ y : Int32, y = b6 + (-1) := ⟨_, rfl⟩
      replace hF := bnd_e hF e19
      refine lv_iinc (v := v18) (lv' := [(6, .int v18), (0, .ref (q1 5)), (1, .int b1), (2, .long b2), (4, .long b4)]) X.x X.b (dk DX6_greatestCap_0 57 rfl) hl (k := 4) rfl (by rw [e19]; rfl) (by decide) rfl (fun ls hl => ?_)
      replace hl : lv_has ls 7 [(0, .ref (q1 5)), (1, .int b1), (2, .long b2), (4, .long b4), (6, .int v18)] := lv_sub hl [1, 2, 3, 4, 0] rfl
      refine lv_goto (tgt := 39) X.x X.b (dk DX6_greatestCap_0 58 rfl) (by decide) ?_
      exact (lp_l hF hx) _ _ _ hH (lv_sub hl [0, 1, 2, 3, 4] rfl) K0
    · replace hF := if_f hF c17
      refine lv_lload_n X.x X.b (dk DX6_greatestCap_0 28 rfl) rfl (lv_at hl 2 rfl) ?_
      refine lv_lconst (v := 1) X.x X.b (dk DX6_greatestCap_0 29 rfl) (by decide) ?_
      refine lv_iload X.x X.b (dk DX6_greatestCap_0 30 rfl) (lv_at hl 4 rfl) ?_
      refine lv_lshl X.x X.b (dk DX6_greatestCap_0 31 rfl) rfl ?_
      refine lv_ldc2 (v := (-1)) X.x X.b X.ow (X.ts _ kK_X6_44) (dk DX6_greatestCap_0 32 rfl) ?_
      refine lv_lxor X.x X.b (dk DX6_greatestCap_0 33 rfl) ?_
      refine lv_land X.x X.b (dk DX6_greatestCap_0 34 rfl) ?_
      refine lv_topl (fun v20 e21 => ?_)
      replace hF := bnd_e hF e21
      refine lv_lstore_n (lv' := [(2, .long v20), (0, .ref (q1 5)), (1, .int b1), (4, .long b4), (6, .int b6)]) X.x X.b (dk DX6_greatestCap_0 35 rfl) rfl hl (by decide) rfl (fun ls hl => ?_)
      replace hl : lv_has ls 7 [(0, .ref (q1 5)), (1, .int b1), (2, .long v20), (4, .long b4), (6, .int b6)] := lv_sub hl [1, 2, 0, 3, 4] rfl
      refine lv_aload_n X.x X.b (dk DX6_greatestCap_0 36 rfl) rfl (lv_at hl 0 rfl) ?_
      refine lv_lload_n X.x X.b (dk DX6_greatestCap_0 37 rfl) rfl (lv_at hl 2 rfl) ?_
      refine lv_iconst (v := 0) X.x X.b (dk DX6_greatestCap_0 38 rfl) (by decide) ?_
      obtain ⟨x22, e23, hF⟩ := bd hF
      refine mr_ci0 hH ⟨rfl, rfl⟩ (mr_runS (As := [.ref (q1 5), .long v20, .int 0]) (rest := []) X hH (c_X6_mostUnjoined hq1 40 s_o1 v20 0 _ e23) kM_X6_57 kT_X6_mostUnjoined kN_X6 kC_X6_mostUnjoined hd_X6_mostUnjoined ⟨Nat.le_of_ble_eq_true rfl, Nat.le_of_ble_eq_true rfl⟩ rfl hl.1 (Nat.le_of_ble_eq_true rfl) (dk DX6_greatestCap_0 39 rfl) ⟨Nat.zero_le _, Nat.zero_le _⟩) (fun r h1 H locs hp hH => ?_)
      obtain ⟨hr1, hr2⟩ := hp; rw [hr1]; rw [hr2] at hH; clear hr1 hr2
      refine lv_iload_n X.x X.b (dk DX6_greatestCap_0 40 rfl) rfl (lv_at hl 1 rfl) ?_
      refine lv_icmp_ge (tgt := 99) X.x X.b (dk DX6_greatestCap_0 41 rfl) (by decide) (fun c25 => ?_) (fun c25 => ?_)
      · replace hF := if_t hF c25
        obtain ⟨v26, e27⟩ : ∃ y : Int32, y = b6 + (-1) := ⟨_, rfl⟩
        replace hF := bnd_e hF e27
        refine lv_iinc (v := v26) (lv' := [(6, .int v26), (0, .ref (q1 5)), (1, .int b1), (2, .long v20), (4, .long b4)]) X.x X.b (dk DX6_greatestCap_0 57 rfl) hl (k := 4) rfl (by rw [e27]; rfl) (by decide) rfl (fun ls hl => ?_)
        replace hl : lv_has ls 7 [(0, .ref (q1 5)), (1, .int b1), (2, .long v20), (4, .long b4), (6, .int v26)] := lv_sub hl [1, 2, 3, 4, 0] rfl
        refine lv_goto (tgt := 39) X.x X.b (dk DX6_greatestCap_0 58 rfl) (by decide) ?_
        exact (lp_l hF hx) _ _ _ hH (lv_sub hl [0, 1, 2, 3, 4] rfl) K0
      · replace hF := if_f hF c25
        refine lv_lload X.x X.b (dk DX6_greatestCap_0 42 rfl) (lv_at hl 3 rfl) ?_
        refine lv_lconst (v := 1) X.x X.b (dk DX6_greatestCap_0 43 rfl) (by decide) ?_
        refine lv_iload X.x X.b (dk DX6_greatestCap_0 44 rfl) (lv_at hl 4 rfl) ?_
        refine lv_lshl X.x X.b (dk DX6_greatestCap_0 45 rfl) rfl ?_
        refine lv_lor X.x X.b (dk DX6_greatestCap_0 46 rfl) ?_
        refine lv_topl (fun v28 e29 => ?_)
        replace hF := bnd_e hF e29
        refine lv_lstore (lv' := [(4, .long v28), (0, .ref (q1 5)), (1, .int b1), (2, .long v20), (6, .int b6)]) X.x X.b (dk DX6_greatestCap_0 47 rfl) hl (by decide) rfl (fun ls hl => ?_)
        replace hl : lv_has ls 7 [(0, .ref (q1 5)), (1, .int b1), (2, .long v20), (4, .long v28), (6, .int b6)] := lv_sub hl [1, 2, 3, 0, 4] rfl
        refine lv_lload_n X.x X.b (dk DX6_greatestCap_0 48 rfl) rfl (lv_at hl 2 rfl) ?_
        refine lv_aload_n X.x X.b (dk DX6_greatestCap_0 49 rfl) rfl (lv_at hl 0 rfl) ?_
        refine lv_iload X.x X.b (dk DX6_greatestCap_0 50 rfl) (lv_at hl 4 rfl) ?_
        obtain ⟨x30, e31, hF⟩ := bd hF
        refine mr_cl0 hH ⟨rfl, rfl⟩ (mr_runV (As := [.int b6]) (rest := [.long v20]) X hH (c_X10_nearAt hq1 e31) ((oset_at hq1 (Nat.le_refl _) ohas_N).trans (congrArg some ocell_N)) OX10.1 kM_X6_50 kI_X10_nearAt kS_X10_nearAt kN_X10 kC_X10_nearAt hd_X10_nearAt ⟨Nat.le_of_ble_eq_true rfl, Nat.le_of_ble_eq_true rfl⟩ rfl hl.1 (Nat.le_of_ble_eq_true rfl) (dk DX6_greatestCap_0 51 rfl) ⟨Nat.zero_le _, Nat.zero_le _⟩) (fun r h1 H locs hp hH => ?_)
        obtain ⟨hr1, hr2⟩ := hp; rw [hr1]; rw [hr2] at hH; clear hr1 hr2
        refine lv_ldc2 (v := (-1)) X.x X.b X.ow (X.ts _ kK_X6_44) (dk DX6_greatestCap_0 52 rfl) ?_
        refine lv_lxor X.x X.b (dk DX6_greatestCap_0 53 rfl) ?_
        refine lv_land X.x X.b (dk DX6_greatestCap_0 54 rfl) ?_
        refine lv_topl (fun v33 e34 => ?_)
        replace hF := bnd_e hF e34
        refine lv_lstore_n (lv' := [(2, .long v33), (0, .ref (q1 5)), (1, .int b1), (4, .long v28), (6, .int b6)]) X.x X.b (dk DX6_greatestCap_0 55 rfl) rfl hl (by decide) rfl (fun ls hl => ?_)
        replace hl : lv_has ls 7 [(0, .ref (q1 5)), (1, .int b1), (2, .long v33), (4, .long v28), (6, .int b6)] := lv_sub hl [1, 2, 0, 3, 4] rfl
        obtain ⟨v35, e36⟩ : ∃ y : Int32, y = b1 + (-1) := ⟨_, rfl⟩
        replace hF := bnd_e hF e36
        refine lv_iinc (v := v35) (lv' := [(1, .int v35), (0, .ref (q1 5)), (2, .long v33), (4, .long v28), (6, .int b6)]) X.x X.b (dk DX6_greatestCap_0 56 rfl) hl (k := 1) rfl (by rw [e36]; rfl) (by decide) rfl (fun ls hl => ?_)
        replace hl : lv_has ls 7 [(0, .ref (q1 5)), (1, .int v35), (2, .long v33), (4, .long v28), (6, .int b6)] := lv_sub hl [1, 0, 2, 3, 4] rfl
        obtain ⟨v37, e38⟩ : ∃ y : Int32, y = b6 + (-1) := ⟨_, rfl⟩
        replace hF := bnd_e hF e38
        refine lv_iinc (v := v37) (lv' := [(6, .int v37), (0, .ref (q1 5)), (1, .int v35), (2, .long v33), (4, .long v28)]) X.x X.b (dk DX6_greatestCap_0 57 rfl) hl (k := 4) rfl (by rw [e38]; rfl) (by decide) rfl (fun ls hl => ?_)
        replace hl : lv_has ls 7 [(0, .ref (q1 5)), (1, .int v35), (2, .long v33), (4, .long v28), (6, .int v37)] := lv_sub hl [1, 2, 3, 4, 0] rfl
        refine lv_goto (tgt := 39) X.x X.b (dk DX6_greatestCap_0 58 rfl) (by decide) ?_
        exact (lp_l hF hx) _ _ _ hH (lv_sub hl [0, 1, 2, 3, 4] rfl) K0
set_option maxHeartbeats 4000000 in
set_option maxRecDepth 100000 in
theorem c_X6_greatestCap {l : Launch} {G : mG} {h : mM} {q1 : Nat → Nat} (hq1 : oinj LX10 q1) {st1 : OS} {x : Int64} (hF : f_X6_greatestCap st1 = some x) : cQ l G yX6_greatestCap cX6_greatestCap 7 (some FieldType.long) rm_X6_greatestCap [.ref (q1 5)] (oset LX10 G q1 st1 h) (mQl G (fun r h1 => r = x ∧ h1 = oset LX10 G q1 st1 h)) := by
  refine mp_of (by decide +kernel) (Nat.le_of_ble_eq_true rfl) ?_
  intro p e s m below meth c X hr hlk hH hname ls hl
  dsimp only [f_X6_greatestCap] at hF
  replace hl : lv_has ls 7 [(0, .ref (q1 5))] := hl
  refine lv_aload_n X.x X.b (dk DX6_greatestCap_0 0 rfl) rfl (lv_at hl 0 rfl) ?_
  refine og_getIN OX10 X hq1 hH 0 (by decide) rfl kFN_X6_25 (dk DX6_greatestCap_0 1 rfl) ?_
  refine lv_bipush (v := 27) X.x X.b (dk DX6_greatestCap_0 2 rfl) (by decide) ?_
  refine lv_icmp_le (tgt := 13) X.x X.b (dk DX6_greatestCap_0 3 rfl) (by decide) (fun c1 => ?_) (fun c1 => ?_)
  · replace hF := if_t hF c1
    refine lv_aload_n X.x X.b (dk DX6_greatestCap_0 6 rfl) rfl (lv_at hl 0 rfl) ?_
    refine lv_aload_n X.x X.b (dk DX6_greatestCap_0 7 rfl) rfl (lv_at hl 0 rfl) ?_
    obtain ⟨x2, e3, hF⟩ := bd hF
    refine mr_cl0 hH ⟨rfl, rfl⟩ (mr_runV (As := []) (rest := [.ref (q1 5)]) X hH (c_X10_all hq1 e3) ((oset_at hq1 (Nat.le_refl _) ohas_N).trans (congrArg some ocell_N)) OX10.1 kM_X6_53 kI_X10_all kS_X10_all kN_X10 kC_X10_all hd_X10_all ⟨Nat.le_of_ble_eq_true rfl, Nat.le_of_ble_eq_true rfl⟩ rfl hl.1 (Nat.le_of_ble_eq_true rfl) (dk DX6_greatestCap_0 8 rfl) ⟨Nat.zero_le _, Nat.zero_le _⟩) (fun r h1 H locs hp hH => ?_)
    obtain ⟨hr1, hr2⟩ := hp; rw [hr1]; rw [hr2] at hH; clear hr1 hr2
    refine lv_iconst (v := 0) X.x X.b (dk DX6_greatestCap_0 9 rfl) (by decide) ?_
    obtain ⟨x5, e6, hF⟩ := bd hF
    refine mr_ci0 hH ⟨rfl, rfl⟩ (mr_runS (As := [.ref (q1 5), .long x2, .int 0]) (rest := []) X hH (c_X6_mostUnjoined hq1 40 st1 x2 0 _ e6) kM_X6_57 kT_X6_mostUnjoined kN_X6 kC_X6_mostUnjoined hd_X6_mostUnjoined ⟨Nat.le_of_ble_eq_true rfl, Nat.le_of_ble_eq_true rfl⟩ rfl hl.1 (Nat.le_of_ble_eq_true rfl) (dk DX6_greatestCap_0 10 rfl) ⟨Nat.zero_le _, Nat.zero_le _⟩) (fun r h1 H locs hp hH => ?_)
    obtain ⟨hr1, hr2⟩ := hp; rw [hr1]; rw [hr2] at hH; clear hr1 hr2
    refine lv_istore_n (lv' := [(1, .int x5), (0, .ref (q1 5))]) X.x X.b (dk DX6_greatestCap_0 11 rfl) rfl hl (by decide) rfl (fun ls hl => ?_)
    replace hl : lv_has ls 7 [(0, .ref (q1 5)), (1, .int x5)] := lv_sub hl [1, 0] rfl
    refine lv_aload_n X.x X.b (dk DX6_greatestCap_0 12 rfl) rfl (lv_at hl 0 rfl) ?_
    obtain ⟨x8, e9, hF⟩ := bd hF
    refine mr_cl0 hH ⟨rfl, rfl⟩ (mr_runV (As := []) (rest := []) X hH (c_X10_all hq1 e9) ((oset_at hq1 (Nat.le_refl _) ohas_N).trans (congrArg some ocell_N)) OX10.1 kM_X6_53 kI_X10_all kS_X10_all kN_X10 kC_X10_all hd_X10_all ⟨Nat.le_of_ble_eq_true rfl, Nat.le_of_ble_eq_true rfl⟩ rfl hl.1 (Nat.le_of_ble_eq_true rfl) (dk DX6_greatestCap_0 13 rfl) ⟨Nat.zero_le _, Nat.zero_le _⟩) (fun r h1 H locs hp hH => ?_)
    obtain ⟨hr1, hr2⟩ := hp; rw [hr1]; rw [hr2] at hH; clear hr1 hr2
    refine lv_lstore_n (lv' := [(2, .long x8), (0, .ref (q1 5)), (1, .int x5)]) X.x X.b (dk DX6_greatestCap_0 14 rfl) rfl hl (by decide) rfl (fun ls hl => ?_)
    replace hl : lv_has ls 7 [(0, .ref (q1 5)), (1, .int x5), (2, .long x8)] := lv_sub hl [1, 2, 0] rfl
    refine lv_lconst (v := 0) X.x X.b (dk DX6_greatestCap_0 15 rfl) (by decide) ?_
    refine lv_lstore (lv' := [(4, .long 0), (0, .ref (q1 5)), (1, .int x5), (2, .long x8)]) X.x X.b (dk DX6_greatestCap_0 16 rfl) hl (by decide) rfl (fun ls hl => ?_)
    replace hl : lv_has ls 7 [(0, .ref (q1 5)), (1, .int x5), (2, .long x8), (4, .long 0)] := lv_sub hl [1, 2, 3, 0] rfl
    refine lv_aload_n X.x X.b (dk DX6_greatestCap_0 17 rfl) rfl (lv_at hl 0 rfl) ?_
    refine og_getIN OX10 X hq1 hH 0 (by decide) rfl kFN_X6_25 (dk DX6_greatestCap_0 18 rfl) ?_
    refine lv_iconst (v := 1) X.x X.b (dk DX6_greatestCap_0 19 rfl) (by decide) ?_
    refine lv_isub X.x X.b (dk DX6_greatestCap_0 20 rfl) ?_
    refine lv_topi (fun v11 e12 => ?_)
    replace hF := bnd_e hF e12
    refine lv_istore (lv' := [(6, .int v11), (0, .ref (q1 5)), (1, .int x5), (2, .long x8), (4, .long 0)]) X.x X.b (dk DX6_greatestCap_0 21 rfl) hl (by decide) rfl (fun ls hl => ?_)
    replace hl : lv_has ls 7 [(0, .ref (q1 5)), (1, .int x5), (2, .long x8), (4, .long 0), (6, .int v11)] := lv_sub hl [1, 2, 3, 4, 0] rfl
    obtain ⟨x39, e40, hF⟩ := bd hF
    replace hl : lv_has ls 7 [(0, .ref (q1 5)), (1, .int x5), (2, .long x8), (4, .long 0), (6, .int v11)] := lv_sub hl [0, 1, 2, 3, 4] rfl
    refine w_X6_greatestCap_39 hq1 X st1 _ _ e40 _ _ _ hH hl (fun H locs ls hH hl => ?_)
    refine lv_lload X.x X.b (dk DX6_greatestCap_0 59 rfl) (lv_at hl 0 rfl) ?_
    cases sm hF
    exact mr_lret X hr hlk hH ⟨rfl, rfl⟩ (dk DX6_greatestCap_1 0 rfl)
  · replace hF := if_f hF c1
    refine lv_ldc2 (v := (-1)) X.x X.b X.ow (X.ts _ kK_X6_44) (dk DX6_greatestCap_0 4 rfl) ?_
    cases sm hF
    exact mr_lret X hr hlk hH ⟨rfl, rfl⟩ (dk DX6_greatestCap_0 5 rfl)
-- X6_triadsOf
abbrev rm_X6_triadsOf : Room := { frames := 2, cells := 0, slots := 0, locals := 40 }
theorem hd_X6_triadsOf : mHd yX6_triadsOf 4 := ⟨by decide +kernel, by decide +kernel, by decide +kernel⟩
theorem DX6_triadsOf_0 : ∀ t ∈ ([(0, .aload_n 0, 1), (1, .invokevirtual 53, 3), (4, .iload_n 2, 1), (5, .iconst 1, 1), (6, .iadd, 1), (7, .invokestatic 41, 3), (10, .ldc2_w 44, 3), (13, .lxor, 1), (14, .land, 1), (15, .aload_n 0, 1), (16, .iload_n 1, 1), (17, .invokevirtual 50, 3), (20, .ldc2_w 44, 3), (23, .lxor, 1), (24, .land, 1), (25, .aload_n 0, 1), (26, .iload_n 2, 1), (27, .invokevirtual 50, 3), (30, .ldc2_w 44, 3), (33, .lxor, 1), (34, .land, 1), (35, .lstore 4, 2), (37, .iload_n 3, 1), (38, .iconst (-1), 1), (39, .if_icmp .ne 9, 3), (42, .lload 4, 2), (44, .invokestatic 19, 3), (47, .ireturn, 1), (48, .aload_n 0, 1), (49, .iload_n 1, 1), (50, .invokevirtual 50, 3), (53, .aload_n 0, 1), (54, .iload_n 2, 1), (55, .invokevirtual 50, 3), (58, .land, 1), (59, .lstore 6, 2), (61, .iconst 0, 1), (62, .istore 8, 2), (64, .iload_n 2, 1), (65, .iconst 1, 1), (66, .iadd, 1), (67, .istore 9, 2), (69, .iload 9, 2), (71, .aload_n 0, 1), (72, .getfield 25, 3), (75, .if_icmp .ge 38, 3), (78, .lload 4, 2), (80, .iload 9, 2), (82, .invokestatic 46, 3), (85, .ifCond .eq 22, 3), (88, .lload 6, 2), (90, .aload_n 0, 1), (91, .iload 9, 2), (93, .invokevirtual 50, 3), (96, .land, 1), (97, .invokestatic 19, 3), (100, .iload_n 3, 1), (101, .if_icmp .ne 6, 3), (104, .iinc 8 1, 3), (107, .iinc 9 1, 3)] : List (Nat × Instr × Nat)), decode cX6_triadsOf t.1 = .ok (t.2.1, t.2.2) := by decide +kernel
theorem DX6_triadsOf_1 : ∀ t ∈ ([(110, .goto (-41), 3), (113, .iload 8, 2), (115, .ireturn, 1)] : List (Nat × Instr × Nat)), decode cX6_triadsOf t.1 = .ok (t.2.1, t.2.2) := by decide +kernel
noncomputable def f_X6_triadsOf_69 (s_o1 : OS) (b3 : Int32) (b4 : Int64) (b6 : Int64) : (Int32 × Int32) → Option ((Int32 × Int32) ⊕ (Int32)) := fun z => match z with | (b8, b9) => (if (s_o1.1 0) ≤ b9 then some (.inr b8) else (f_X10_has b4 b9).bind (fun x27 => (if x27 = 0 then bnd (b9 + 1 : Int32) (fun v31 => some (.inl ((b8, v31)))) else (f_X10_nearAt s_o1 b9).bind (fun x33 => (f_J13_bitCount_95d88 (b6 &&& x33)).bind (fun x36 => (if x36 = b3 then bnd (b8 + 1 : Int32) (fun v42 => bnd (b9 + 1 : Int32) (fun v44 => some (.inl ((v42, v44))))) else bnd (b9 + 1 : Int32) (fun v40 => some (.inl ((b8, v40))))))))))
noncomputable def f_X6_triadsOf (st1 : OS) (a1 : Int32) (a2 : Int32) (a3 : Int32) : Option (Int32) := (f_X10_all st1).bind (fun x1 => (f_X10_first (a2 + 1)).bind (fun x4 => (f_X10_nearAt st1 a1).bind (fun x7 => (f_X10_nearAt st1 a2).bind (fun x10 => bnd (((x1 &&& (x4 ^^^ ((-1)))) &&& (x7 ^^^ ((-1)))) &&& (x10 ^^^ ((-1))) : Int64) (fun v13 => (if a3 = ((-1)) then (f_J13_bitCount_95d88 v13).bind (fun x49 => some x49) else (f_X10_nearAt st1 a1).bind (fun x16 => (f_X10_nearAt st1 a2).bind (fun x19 => bnd (x16 &&& x19 : Int64) (fun v22 => bnd (a2 + 1 : Int32) (fun v24 => (lpv (f_X6_triadsOf_69 st1 a3 v13 v22) ((0, v24))).bind (fun x46 => some x46)))))))))))
set_option maxHeartbeats 4000000 in
set_option maxRecDepth 100000 in
theorem w_X6_triadsOf_69 {p : Program} {l : Launch} {e : Env} {s : State} {m : MethodId} {args : Array Value} {below : List Frame} {meth : Method} {c : Code} {Q : State → Prop} {G : mG} {h : mM} {q1 : Nat → Nat} (hq1 : oinj LX10 q1) (X : mX G p m c cX6_triadsOf 10 s args RX6) (s_o1 : OS) (b3 : Int32) (b4 : Int64) (b6 : Int64) : ∀ (z : Int32 × Int32) (r : Int32), lpv (f_X6_triadsOf_69 s_o1 b3 b4 b6) z = some r → ∀ (H : Heap) (locs : List Loc) (ls : Array Slot), mH G (oset LX10 G q1 s_o1 h) s.heap H locs → lv_has ls 10 [(0, .ref (q1 5)), (3, .int b3), (4, .long b4), (6, .long b6), (8, .int z.1), (9, .int z.2)] → (∀ (H : Heap) (locs : List Loc) (ls : Array Slot), mH G (oset LX10 G q1 s_o1 h) s.heap H locs → lv_has ls 10 [(8, .int r)] → W p l e rm_X6_triadsOf s m args below meth c H locs 0 0 Q (F0 m 113 ls [])) → W p l e rm_X6_triadsOf s m args below meth c H locs 0 0 Q (F0 m 69 ls []) := by
  refine lpv_rec ?_
  intro z r x hF hx H locs ls hH hl K0
  obtain ⟨b8, b9⟩ := z
  dsimp only [f_X6_triadsOf_69] at hF
  try dsimp only at hH hl
  refine lv_iload X.x X.b (dk DX6_triadsOf_0 42 rfl) (lv_at hl 5 rfl) ?_
  refine lv_aload_n X.x X.b (dk DX6_triadsOf_0 43 rfl) rfl (lv_at hl 0 rfl) ?_
  refine og_getIN OX10 X hq1 hH 0 (by decide) rfl kFN_X6_25 (dk DX6_triadsOf_0 44 rfl) ?_
  refine lv_icmp_ge (tgt := 113) X.x X.b (dk DX6_triadsOf_0 45 rfl) (by decide) (fun c26 => ?_) (fun c26 => ?_)
  · replace hF := if_t hF c26
    have hr9 := lp_r hF hx
    subst hr9
    exact K0 _ _ _ hH (lv_sub hl [4] rfl)
  · replace hF := if_f hF c26
    refine lv_lload X.x X.b (dk DX6_triadsOf_0 46 rfl) (lv_at hl 2 rfl) ?_
    refine lv_iload X.x X.b (dk DX6_triadsOf_0 47 rfl) (lv_at hl 5 rfl) ?_
    obtain ⟨x27, e28, hF⟩ := bd hF
    refine mr_ci0 hH ⟨rfl, rfl⟩ (mr_runS (As := [.long b4, .int b9]) (rest := []) X hH (c_X10_has e28) kM_X6_46 kT_X10_has kN_X10 kC_X10_has hd_X10_has ⟨Nat.le_of_ble_eq_true rfl, Nat.le_of_ble_eq_true rfl⟩ rfl hl.1 (Nat.le_of_ble_eq_true rfl) (dk DX6_triadsOf_0 48 rfl) ⟨Nat.zero_le _, Nat.zero_le _⟩) (fun r h1 H locs hp hH => ?_)
    obtain ⟨hr1, hr2⟩ := hp; rw [hr1]; rw [hr2] at hH; clear hr1 hr2
    refine lv_if_eq (tgt := 107) X.x X.b (dk DX6_triadsOf_0 49 rfl) (by decide) (fun c30 => ?_) (fun c30 => ?_)
    · replace hF := if_t hF c30
      obtain ⟨v31, e32⟩ : ∃ y : Int32, y = b9 + 1 := ⟨_, rfl⟩
      replace hF := bnd_e hF e32
      refine lv_iinc (v := v31) (lv' := [(9, .int v31), (0, .ref (q1 5)), (3, .int b3), (4, .long b4), (6, .long b6), (8, .int b8)]) X.x X.b (dk DX6_triadsOf_0 59 rfl) hl (k := 5) rfl (by rw [e32]; rfl) (by decide) rfl (fun ls hl => ?_)
      replace hl : lv_has ls 10 [(0, .ref (q1 5)), (3, .int b3), (4, .long b4), (6, .long b6), (8, .int b8), (9, .int v31)] := lv_sub hl [1, 2, 3, 4, 5, 0] rfl
      refine lv_goto (tgt := 69) X.x X.b (dk DX6_triadsOf_1 0 rfl) (by decide) ?_
      exact (lp_l hF hx) _ _ _ hH (lv_sub hl [0, 1, 2, 3, 4, 5] rfl) K0
    · replace hF := if_f hF c30
      refine lv_lload X.x X.b (dk DX6_triadsOf_0 50 rfl) (lv_at hl 3 rfl) ?_
      refine lv_aload_n X.x X.b (dk DX6_triadsOf_0 51 rfl) rfl (lv_at hl 0 rfl) ?_
      refine lv_iload X.x X.b (dk DX6_triadsOf_0 52 rfl) (lv_at hl 5 rfl) ?_
      obtain ⟨x33, e34, hF⟩ := bd hF
      refine mr_cl0 hH ⟨rfl, rfl⟩ (mr_runV (As := [.int b9]) (rest := [.long b6]) X hH (c_X10_nearAt hq1 e34) ((oset_at hq1 (Nat.le_refl _) ohas_N).trans (congrArg some ocell_N)) OX10.1 kM_X6_50 kI_X10_nearAt kS_X10_nearAt kN_X10 kC_X10_nearAt hd_X10_nearAt ⟨Nat.le_of_ble_eq_true rfl, Nat.le_of_ble_eq_true rfl⟩ rfl hl.1 (Nat.le_of_ble_eq_true rfl) (dk DX6_triadsOf_0 53 rfl) ⟨Nat.zero_le _, Nat.zero_le _⟩) (fun r h1 H locs hp hH => ?_)
      obtain ⟨hr1, hr2⟩ := hp; rw [hr1]; rw [hr2] at hH; clear hr1 hr2
      refine lv_land X.x X.b (dk DX6_triadsOf_0 54 rfl) ?_
      obtain ⟨x36, e37, hF⟩ := bd hF
      refine mr_ci0 hH ⟨rfl, rfl⟩ (mr_runS (As := [.long (b6 &&& x33)]) (rest := []) X hH (c_J13_bitCount_95d88 e37) kM_X6_19 kT_J13_bitCount_95d88 kN_J13 kC_J13_bitCount_95d88 hd_J13_bitCount_95d88 ⟨Nat.le_of_ble_eq_true rfl, Nat.le_of_ble_eq_true rfl⟩ rfl hl.1 (Nat.le_of_ble_eq_true rfl) (dk DX6_triadsOf_0 55 rfl) ⟨Nat.zero_le _, Nat.zero_le _⟩) (fun r h1 H locs hp hH => ?_)
      obtain ⟨hr1, hr2⟩ := hp; rw [hr1]; rw [hr2] at hH; clear hr1 hr2
      refine lv_iload_n X.x X.b (dk DX6_triadsOf_0 56 rfl) rfl (lv_at hl 1 rfl) ?_
      refine lv_icmp_ne (tgt := 107) X.x X.b (dk DX6_triadsOf_0 57 rfl) (by decide) (fun c39 => ?_) (fun c39 => ?_)
      · replace hF := if_f hF c39
        obtain ⟨v40, e41⟩ : ∃ y : Int32, y = b9 + 1 := ⟨_, rfl⟩
        replace hF := bnd_e hF e41
        refine lv_iinc (v := v40) (lv' := [(9, .int v40), (0, .ref (q1 5)), (3, .int b3), (4, .long b4), (6, .long b6), (8, .int b8)]) X.x X.b (dk DX6_triadsOf_0 59 rfl) hl (k := 5) rfl (by rw [e41]; rfl) (by decide) rfl (fun ls hl => ?_)
        replace hl : lv_has ls 10 [(0, .ref (q1 5)), (3, .int b3), (4, .long b4), (6, .long b6), (8, .int b8), (9, .int v40)] := lv_sub hl [1, 2, 3, 4, 5, 0] rfl
        refine lv_goto (tgt := 69) X.x X.b (dk DX6_triadsOf_1 0 rfl) (by decide) ?_
        exact (lp_l hF hx) _ _ _ hH (lv_sub hl [0, 1, 2, 3, 4, 5] rfl) K0
      · replace hF := if_t hF c39
        obtain ⟨v42, e43⟩ : ∃ y : Int32, y = b8 + 1 := ⟨_, rfl⟩
        replace hF := bnd_e hF e43
        refine lv_iinc (v := v42) (lv' := [(8, .int v42), (0, .ref (q1 5)), (3, .int b3), (4, .long b4), (6, .long b6), (9, .int b9)]) X.x X.b (dk DX6_triadsOf_0 58 rfl) hl (k := 4) rfl (by rw [e43]; rfl) (by decide) rfl (fun ls hl => ?_)
        replace hl : lv_has ls 10 [(0, .ref (q1 5)), (3, .int b3), (4, .long b4), (6, .long b6), (8, .int v42), (9, .int b9)] := lv_sub hl [1, 2, 3, 4, 0, 5] rfl
        obtain ⟨v44, e45⟩ : ∃ y : Int32, y = b9 + 1 := ⟨_, rfl⟩
        replace hF := bnd_e hF e45
        refine lv_iinc (v := v44) (lv' := [(9, .int v44), (0, .ref (q1 5)), (3, .int b3), (4, .long b4), (6, .long b6), (8, .int v42)]) X.x X.b (dk DX6_triadsOf_0 59 rfl) hl (k := 5) rfl (by rw [e45]; rfl) (by decide) rfl (fun ls hl => ?_)
        replace hl : lv_has ls 10 [(0, .ref (q1 5)), (3, .int b3), (4, .long b4), (6, .long b6), (8, .int v42), (9, .int v44)] := lv_sub hl [1, 2, 3, 4, 5, 0] rfl
        refine lv_goto (tgt := 69) X.x X.b (dk DX6_triadsOf_1 0 rfl) (by decide) ?_
        exact (lp_l hF hx) _ _ _ hH (lv_sub hl [0, 1, 2, 3, 4, 5] rfl) K0
set_option maxHeartbeats 4000000 in
set_option maxRecDepth 100000 in
theorem c_X6_triadsOf {l : Launch} {G : mG} {h : mM} {q1 : Nat → Nat} (hq1 : oinj LX10 q1) {st1 : OS} {a1 : Int32} {a2 : Int32} {a3 : Int32} {x : Int32} (hF : f_X6_triadsOf st1 a1 a2 a3 = some x) : cQ l G yX6_triadsOf cX6_triadsOf 10 (some FieldType.int) rm_X6_triadsOf [.ref (q1 5), .int a1, .int a2, .int a3] (oset LX10 G q1 st1 h) (mQi G (fun r h1 => r = x ∧ h1 = oset LX10 G q1 st1 h)) := by
  refine mp_of (by decide +kernel) (Nat.le_of_ble_eq_true rfl) ?_
  intro p e s m below meth c X hr hlk hH hname ls hl
  dsimp only [f_X6_triadsOf] at hF
  replace hl : lv_has ls 10 [(0, .ref (q1 5)), (1, .int a1), (2, .int a2), (3, .int a3)] := hl
  refine lv_aload_n X.x X.b (dk DX6_triadsOf_0 0 rfl) rfl (lv_at hl 0 rfl) ?_
  obtain ⟨x1, e2, hF⟩ := bd hF
  refine mr_cl0 hH ⟨rfl, rfl⟩ (mr_runV (As := []) (rest := []) X hH (c_X10_all hq1 e2) ((oset_at hq1 (Nat.le_refl _) ohas_N).trans (congrArg some ocell_N)) OX10.1 kM_X6_53 kI_X10_all kS_X10_all kN_X10 kC_X10_all hd_X10_all ⟨Nat.le_of_ble_eq_true rfl, Nat.le_of_ble_eq_true rfl⟩ rfl hl.1 (Nat.le_of_ble_eq_true rfl) (dk DX6_triadsOf_0 1 rfl) ⟨Nat.zero_le _, Nat.zero_le _⟩) (fun r h1 H locs hp hH => ?_)
  obtain ⟨hr1, hr2⟩ := hp; rw [hr1]; rw [hr2] at hH; clear hr1 hr2
  refine lv_iload_n X.x X.b (dk DX6_triadsOf_0 2 rfl) rfl (lv_at hl 2 rfl) ?_
  refine lv_iconst (v := 1) X.x X.b (dk DX6_triadsOf_0 3 rfl) (by decide) ?_
  refine lv_iadd X.x X.b (dk DX6_triadsOf_0 4 rfl) ?_
  obtain ⟨x4, e5, hF⟩ := bd hF
  refine mr_cl0 hH ⟨rfl, rfl⟩ (mr_runS (As := [.int (a2 + 1)]) (rest := [.long x1]) X hH (c_X10_first e5) kM_X6_41 kT_X10_first kN_X10 kC_X10_first hd_X10_first ⟨Nat.le_of_ble_eq_true rfl, Nat.le_of_ble_eq_true rfl⟩ rfl hl.1 (Nat.le_of_ble_eq_true rfl) (dk DX6_triadsOf_0 5 rfl) ⟨Nat.zero_le _, Nat.zero_le _⟩) (fun r h1 H locs hp hH => ?_)
  obtain ⟨hr1, hr2⟩ := hp; rw [hr1]; rw [hr2] at hH; clear hr1 hr2
  refine lv_ldc2 (v := (-1)) X.x X.b X.ow (X.ts _ kK_X6_44) (dk DX6_triadsOf_0 6 rfl) ?_
  refine lv_lxor X.x X.b (dk DX6_triadsOf_0 7 rfl) ?_
  refine lv_land X.x X.b (dk DX6_triadsOf_0 8 rfl) ?_
  refine lv_aload_n X.x X.b (dk DX6_triadsOf_0 9 rfl) rfl (lv_at hl 0 rfl) ?_
  refine lv_iload_n X.x X.b (dk DX6_triadsOf_0 10 rfl) rfl (lv_at hl 1 rfl) ?_
  obtain ⟨x7, e8, hF⟩ := bd hF
  refine mr_cl0 hH ⟨rfl, rfl⟩ (mr_runV (As := [.int a1]) (rest := [.long (x1 &&& (x4 ^^^ ((-1))))]) X hH (c_X10_nearAt hq1 e8) ((oset_at hq1 (Nat.le_refl _) ohas_N).trans (congrArg some ocell_N)) OX10.1 kM_X6_50 kI_X10_nearAt kS_X10_nearAt kN_X10 kC_X10_nearAt hd_X10_nearAt ⟨Nat.le_of_ble_eq_true rfl, Nat.le_of_ble_eq_true rfl⟩ rfl hl.1 (Nat.le_of_ble_eq_true rfl) (dk DX6_triadsOf_0 11 rfl) ⟨Nat.zero_le _, Nat.zero_le _⟩) (fun r h1 H locs hp hH => ?_)
  obtain ⟨hr1, hr2⟩ := hp; rw [hr1]; rw [hr2] at hH; clear hr1 hr2
  refine lv_ldc2 (v := (-1)) X.x X.b X.ow (X.ts _ kK_X6_44) (dk DX6_triadsOf_0 12 rfl) ?_
  refine lv_lxor X.x X.b (dk DX6_triadsOf_0 13 rfl) ?_
  refine lv_land X.x X.b (dk DX6_triadsOf_0 14 rfl) ?_
  refine lv_aload_n X.x X.b (dk DX6_triadsOf_0 15 rfl) rfl (lv_at hl 0 rfl) ?_
  refine lv_iload_n X.x X.b (dk DX6_triadsOf_0 16 rfl) rfl (lv_at hl 2 rfl) ?_
  obtain ⟨x10, e11, hF⟩ := bd hF
  refine mr_cl0 hH ⟨rfl, rfl⟩ (mr_runV (As := [.int a2]) (rest := [.long ((x1 &&& (x4 ^^^ ((-1)))) &&& (x7 ^^^ ((-1))))]) X hH (c_X10_nearAt hq1 e11) ((oset_at hq1 (Nat.le_refl _) ohas_N).trans (congrArg some ocell_N)) OX10.1 kM_X6_50 kI_X10_nearAt kS_X10_nearAt kN_X10 kC_X10_nearAt hd_X10_nearAt ⟨Nat.le_of_ble_eq_true rfl, Nat.le_of_ble_eq_true rfl⟩ rfl hl.1 (Nat.le_of_ble_eq_true rfl) (dk DX6_triadsOf_0 17 rfl) ⟨Nat.zero_le _, Nat.zero_le _⟩) (fun r h1 H locs hp hH => ?_)
  obtain ⟨hr1, hr2⟩ := hp; rw [hr1]; rw [hr2] at hH; clear hr1 hr2
  refine lv_ldc2 (v := (-1)) X.x X.b X.ow (X.ts _ kK_X6_44) (dk DX6_triadsOf_0 18 rfl) ?_
  refine lv_lxor X.x X.b (dk DX6_triadsOf_0 19 rfl) ?_
  refine lv_land X.x X.b (dk DX6_triadsOf_0 20 rfl) ?_
  refine lv_topl (fun v13 e14 => ?_)
  replace hF := bnd_e hF e14
  refine lv_lstore (lv' := [(4, .long v13), (0, .ref (q1 5)), (1, .int a1), (2, .int a2), (3, .int a3)]) X.x X.b (dk DX6_triadsOf_0 21 rfl) hl (by decide) rfl (fun ls hl => ?_)
  replace hl : lv_has ls 10 [(0, .ref (q1 5)), (1, .int a1), (2, .int a2), (3, .int a3), (4, .long v13)] := lv_sub hl [1, 2, 3, 4, 0] rfl
  refine lv_iload_n X.x X.b (dk DX6_triadsOf_0 22 rfl) rfl (lv_at hl 3 rfl) ?_
  refine lv_iconst (v := (-1)) X.x X.b (dk DX6_triadsOf_0 23 rfl) (by decide) ?_
  refine lv_icmp_ne (tgt := 48) X.x X.b (dk DX6_triadsOf_0 24 rfl) (by decide) (fun c15 => ?_) (fun c15 => ?_)
  · replace hF := if_f hF c15
    refine lv_aload_n X.x X.b (dk DX6_triadsOf_0 28 rfl) rfl (lv_at hl 0 rfl) ?_
    refine lv_iload_n X.x X.b (dk DX6_triadsOf_0 29 rfl) rfl (lv_at hl 1 rfl) ?_
    obtain ⟨x16, e17, hF⟩ := bd hF
    refine mr_cl0 hH ⟨rfl, rfl⟩ (mr_runV (As := [.int a1]) (rest := []) X hH (c_X10_nearAt hq1 e17) ((oset_at hq1 (Nat.le_refl _) ohas_N).trans (congrArg some ocell_N)) OX10.1 kM_X6_50 kI_X10_nearAt kS_X10_nearAt kN_X10 kC_X10_nearAt hd_X10_nearAt ⟨Nat.le_of_ble_eq_true rfl, Nat.le_of_ble_eq_true rfl⟩ rfl hl.1 (Nat.le_of_ble_eq_true rfl) (dk DX6_triadsOf_0 30 rfl) ⟨Nat.zero_le _, Nat.zero_le _⟩) (fun r h1 H locs hp hH => ?_)
    obtain ⟨hr1, hr2⟩ := hp; rw [hr1]; rw [hr2] at hH; clear hr1 hr2
    refine lv_aload_n X.x X.b (dk DX6_triadsOf_0 31 rfl) rfl (lv_at hl 0 rfl) ?_
    refine lv_iload_n X.x X.b (dk DX6_triadsOf_0 32 rfl) rfl (lv_at hl 2 rfl) ?_
    obtain ⟨x19, e20, hF⟩ := bd hF
    refine mr_cl0 hH ⟨rfl, rfl⟩ (mr_runV (As := [.int a2]) (rest := [.long x16]) X hH (c_X10_nearAt hq1 e20) ((oset_at hq1 (Nat.le_refl _) ohas_N).trans (congrArg some ocell_N)) OX10.1 kM_X6_50 kI_X10_nearAt kS_X10_nearAt kN_X10 kC_X10_nearAt hd_X10_nearAt ⟨Nat.le_of_ble_eq_true rfl, Nat.le_of_ble_eq_true rfl⟩ rfl hl.1 (Nat.le_of_ble_eq_true rfl) (dk DX6_triadsOf_0 33 rfl) ⟨Nat.zero_le _, Nat.zero_le _⟩) (fun r h1 H locs hp hH => ?_)
    obtain ⟨hr1, hr2⟩ := hp; rw [hr1]; rw [hr2] at hH; clear hr1 hr2
    refine lv_land X.x X.b (dk DX6_triadsOf_0 34 rfl) ?_
    refine lv_topl (fun v22 e23 => ?_)
    replace hF := bnd_e hF e23
    refine lv_lstore (lv' := [(6, .long v22), (0, .ref (q1 5)), (1, .int a1), (2, .int a2), (3, .int a3), (4, .long v13)]) X.x X.b (dk DX6_triadsOf_0 35 rfl) hl (by decide) rfl (fun ls hl => ?_)
    replace hl : lv_has ls 10 [(0, .ref (q1 5)), (2, .int a2), (3, .int a3), (4, .long v13), (6, .long v22)] := lv_sub hl [1, 3, 4, 5, 0] rfl
    refine lv_iconst (v := 0) X.x X.b (dk DX6_triadsOf_0 36 rfl) (by decide) ?_
    refine lv_istore (lv' := [(8, .int 0), (0, .ref (q1 5)), (2, .int a2), (3, .int a3), (4, .long v13), (6, .long v22)]) X.x X.b (dk DX6_triadsOf_0 37 rfl) hl (by decide) rfl (fun ls hl => ?_)
    replace hl : lv_has ls 10 [(0, .ref (q1 5)), (2, .int a2), (3, .int a3), (4, .long v13), (6, .long v22), (8, .int 0)] := lv_sub hl [1, 2, 3, 4, 5, 0] rfl
    refine lv_iload_n X.x X.b (dk DX6_triadsOf_0 38 rfl) rfl (lv_at hl 1 rfl) ?_
    refine lv_iconst (v := 1) X.x X.b (dk DX6_triadsOf_0 39 rfl) (by decide) ?_
    refine lv_iadd X.x X.b (dk DX6_triadsOf_0 40 rfl) ?_
    refine lv_topi (fun v24 e25 => ?_)
    replace hF := bnd_e hF e25
    refine lv_istore (lv' := [(9, .int v24), (0, .ref (q1 5)), (2, .int a2), (3, .int a3), (4, .long v13), (6, .long v22), (8, .int 0)]) X.x X.b (dk DX6_triadsOf_0 41 rfl) hl (by decide) rfl (fun ls hl => ?_)
    replace hl : lv_has ls 10 [(0, .ref (q1 5)), (3, .int a3), (4, .long v13), (6, .long v22), (8, .int 0), (9, .int v24)] := lv_sub hl [1, 3, 4, 5, 6, 0] rfl
    obtain ⟨x46, e47, hF⟩ := bd hF
    replace hl : lv_has ls 10 [(0, .ref (q1 5)), (3, .int a3), (4, .long v13), (6, .long v22), (8, .int 0), (9, .int v24)] := lv_sub hl [0, 1, 2, 3, 4, 5] rfl
    refine w_X6_triadsOf_69 hq1 X st1 a3 v13 v22 _ _ e47 _ _ _ hH hl (fun H locs ls hH hl => ?_)
    refine lv_iload X.x X.b (dk DX6_triadsOf_1 1 rfl) (lv_at hl 0 rfl) ?_
    cases sm hF
    exact mr_iret X hr hlk hH ⟨rfl, rfl⟩ (dk DX6_triadsOf_1 2 rfl)
  · replace hF := if_t hF c15
    refine lv_lload X.x X.b (dk DX6_triadsOf_0 25 rfl) (lv_at hl 4 rfl) ?_
    obtain ⟨x49, e50, hF⟩ := bd hF
    refine mr_ci0 hH ⟨rfl, rfl⟩ (mr_runS (As := [.long v13]) (rest := []) X hH (c_J13_bitCount_95d88 e50) kM_X6_19 kT_J13_bitCount_95d88 kN_J13 kC_J13_bitCount_95d88 hd_J13_bitCount_95d88 ⟨Nat.le_of_ble_eq_true rfl, Nat.le_of_ble_eq_true rfl⟩ rfl hl.1 (Nat.le_of_ble_eq_true rfl) (dk DX6_triadsOf_0 26 rfl) ⟨Nat.zero_le _, Nat.zero_le _⟩) (fun r h1 H locs hp hH => ?_)
    obtain ⟨hr1, hr2⟩ := hp; rw [hr1]; rw [hr2] at hH; clear hr1 hr2
    cases sm hF
    exact mr_iret X hr hlk hH ⟨rfl, rfl⟩ (dk DX6_triadsOf_0 27 rfl)
-- X6_triadsWith
abbrev rm_X6_triadsWith : Room := { frames := 3, cells := 0, slots := 0, locals := 69 }
theorem hd_X6_triadsWith : mHd yX6_triadsWith 2 := ⟨by decide +kernel, by decide +kernel, by decide +kernel⟩
theorem DX6_triadsWith_0 : ∀ t ∈ ([(0, .iconst 0, 1), (1, .istore_n 2, 1), (2, .iconst 0, 1), (3, .istore_n 3, 1), (4, .iload_n 3, 1), (5, .aload_n 0, 1), (6, .getfield 25, 3), (9, .if_icmp .ge 53, 3), (12, .iload_n 3, 1), (13, .iconst 1, 1), (14, .iadd, 1), (15, .istore 4, 2), (17, .iload 4, 2), (19, .aload_n 0, 1), (20, .getfield 25, 3), (23, .if_icmp .ge 33, 3), (26, .aload_n 0, 1), (27, .iload_n 3, 1), (28, .invokevirtual 50, 3), (31, .iload 4, 2), (33, .invokestatic 46, 3), (36, .ifCond .ne 14, 3), (39, .iload_n 2, 1), (40, .aload_n 0, 1), (41, .iload_n 3, 1), (42, .iload 4, 2), (44, .iload_n 1, 1), (45, .invokestatic 74, 3), (48, .iadd, 1), (49, .istore_n 2, 1), (50, .iinc 4 1, 3), (53, .goto (-36), 3), (56, .iinc 3 1, 3), (59, .goto (-55), 3), (62, .iload_n 2, 1), (63, .ireturn, 1)] : List (Nat × Instr × Nat)), decode cX6_triadsWith t.1 = .ok (t.2.1, t.2.2) := by decide +kernel
noncomputable def f_X6_triadsWith_17 (s_o1 : OS) (b1 : Int32) (b3 : Int32) : (Int32 × Int32) → Option ((Int32 × Int32) ⊕ (Int32)) := fun z => match z with | (b2, b4) => (if (s_o1.1 0) ≤ b4 then some (.inr b2) else (f_X10_nearAt s_o1 b3).bind (fun x5 => (f_X10_has x5 b4).bind (fun x8 => (if x8 = 0 then (f_X6_triadsOf s_o1 b3 b4 b1).bind (fun x14 => bnd (b2 + x14 : Int32) (fun v17 => bnd (b4 + 1 : Int32) (fun v19 => some (.inl ((v17, v19)))))) else bnd (b4 + 1 : Int32) (fun v12 => some (.inl ((b2, v12))))))))
noncomputable def f_X6_triadsWith_4 (s_o1 : OS) (b1 : Int32) : (Int32 × Int32) → Option ((Int32 × Int32) ⊕ (Int32)) := fun z => match z with | (b2, b3) => (if (s_o1.1 0) ≤ b3 then some (.inr b2) else bnd (b3 + 1 : Int32) (fun v2 => (lpv (f_X6_triadsWith_17 s_o1 b1 b3) ((b2, v2))).bind (fun x21 => bnd (b3 + 1 : Int32) (fun v24 => some (.inl ((x21, v24)))))))
noncomputable def f_X6_triadsWith (st1 : OS) (a1 : Int32) : Option (Int32) := (lpv (f_X6_triadsWith_4 st1 a1) ((0, 0))).bind (fun x26 => some x26)
set_option maxHeartbeats 4000000 in
set_option maxRecDepth 100000 in
theorem w_X6_triadsWith_17 {p : Program} {l : Launch} {e : Env} {s : State} {m : MethodId} {args : Array Value} {below : List Frame} {meth : Method} {c : Code} {Q : State → Prop} {G : mG} {h : mM} {q1 : Nat → Nat} (hq1 : oinj LX10 q1) (X : mX G p m c cX6_triadsWith 5 s args RX6) (s_o1 : OS) (b1 : Int32) (b3 : Int32) : ∀ (z : Int32 × Int32) (r : Int32), lpv (f_X6_triadsWith_17 s_o1 b1 b3) z = some r → ∀ (H : Heap) (locs : List Loc) (ls : Array Slot), mH G (oset LX10 G q1 s_o1 h) s.heap H locs → lv_has ls 5 [(0, .ref (q1 5)), (1, .int b1), (2, .int z.1), (3, .int b3), (4, .int z.2)] → (∀ (H : Heap) (locs : List Loc) (ls : Array Slot), mH G (oset LX10 G q1 s_o1 h) s.heap H locs → lv_has ls 5 [(0, .ref (q1 5)), (1, .int b1), (2, .int r), (3, .int b3)] → W p l e rm_X6_triadsWith s m args below meth c H locs 0 0 Q (F0 m 56 ls [])) → W p l e rm_X6_triadsWith s m args below meth c H locs 0 0 Q (F0 m 17 ls []) := by
  refine lpv_rec ?_
  intro z r x hF hx H locs ls hH hl K0
  obtain ⟨b2, b4⟩ := z
  dsimp only [f_X6_triadsWith_17] at hF
  try dsimp only at hH hl
  refine lv_iload X.x X.b (dk DX6_triadsWith_0 12 rfl) (lv_at hl 4 rfl) ?_
  refine lv_aload_n X.x X.b (dk DX6_triadsWith_0 13 rfl) rfl (lv_at hl 0 rfl) ?_
  refine og_getIN OX10 X hq1 hH 0 (by decide) rfl kFN_X6_25 (dk DX6_triadsWith_0 14 rfl) ?_
  refine lv_icmp_ge (tgt := 56) X.x X.b (dk DX6_triadsWith_0 15 rfl) (by decide) (fun c4 => ?_) (fun c4 => ?_)
  · replace hF := if_t hF c4
    have hr9 := lp_r hF hx
    subst hr9
    exact K0 _ _ _ hH (lv_sub hl [0, 1, 2, 3] rfl)
  · replace hF := if_f hF c4
    refine lv_aload_n X.x X.b (dk DX6_triadsWith_0 16 rfl) rfl (lv_at hl 0 rfl) ?_
    refine lv_iload_n X.x X.b (dk DX6_triadsWith_0 17 rfl) rfl (lv_at hl 3 rfl) ?_
    obtain ⟨x5, e6, hF⟩ := bd hF
    refine mr_cl0 hH ⟨rfl, rfl⟩ (mr_runV (As := [.int b3]) (rest := []) X hH (c_X10_nearAt hq1 e6) ((oset_at hq1 (Nat.le_refl _) ohas_N).trans (congrArg some ocell_N)) OX10.1 kM_X6_50 kI_X10_nearAt kS_X10_nearAt kN_X10 kC_X10_nearAt hd_X10_nearAt ⟨Nat.le_of_ble_eq_true rfl, Nat.le_of_ble_eq_true rfl⟩ rfl hl.1 (Nat.le_of_ble_eq_true rfl) (dk DX6_triadsWith_0 18 rfl) ⟨Nat.zero_le _, Nat.zero_le _⟩) (fun r h1 H locs hp hH => ?_)
    obtain ⟨hr1, hr2⟩ := hp; rw [hr1]; rw [hr2] at hH; clear hr1 hr2
    refine lv_iload X.x X.b (dk DX6_triadsWith_0 19 rfl) (lv_at hl 4 rfl) ?_
    obtain ⟨x8, e9, hF⟩ := bd hF
    refine mr_ci0 hH ⟨rfl, rfl⟩ (mr_runS (As := [.long x5, .int b4]) (rest := []) X hH (c_X10_has e9) kM_X6_46 kT_X10_has kN_X10 kC_X10_has hd_X10_has ⟨Nat.le_of_ble_eq_true rfl, Nat.le_of_ble_eq_true rfl⟩ rfl hl.1 (Nat.le_of_ble_eq_true rfl) (dk DX6_triadsWith_0 20 rfl) ⟨Nat.zero_le _, Nat.zero_le _⟩) (fun r h1 H locs hp hH => ?_)
    obtain ⟨hr1, hr2⟩ := hp; rw [hr1]; rw [hr2] at hH; clear hr1 hr2
    refine lv_if_ne (tgt := 50) X.x X.b (dk DX6_triadsWith_0 21 rfl) (by decide) (fun c11 => ?_) (fun c11 => ?_)
    · replace hF := if_f hF c11
      obtain ⟨v12, e13⟩ : ∃ y : Int32, y = b4 + 1 := ⟨_, rfl⟩
      replace hF := bnd_e hF e13
      refine lv_iinc (v := v12) (lv' := [(4, .int v12), (0, .ref (q1 5)), (1, .int b1), (2, .int b2), (3, .int b3)]) X.x X.b (dk DX6_triadsWith_0 30 rfl) hl (k := 4) rfl (by rw [e13]; rfl) (by decide) rfl (fun ls hl => ?_)
      replace hl : lv_has ls 5 [(0, .ref (q1 5)), (1, .int b1), (2, .int b2), (3, .int b3), (4, .int v12)] := lv_sub hl [1, 2, 3, 4, 0] rfl
      refine lv_goto (tgt := 17) X.x X.b (dk DX6_triadsWith_0 31 rfl) (by decide) ?_
      exact (lp_l hF hx) _ _ _ hH (lv_sub hl [0, 1, 2, 3, 4] rfl) K0
    · replace hF := if_t hF c11
      refine lv_iload_n X.x X.b (dk DX6_triadsWith_0 22 rfl) rfl (lv_at hl 2 rfl) ?_
      refine lv_aload_n X.x X.b (dk DX6_triadsWith_0 23 rfl) rfl (lv_at hl 0 rfl) ?_
      refine lv_iload_n X.x X.b (dk DX6_triadsWith_0 24 rfl) rfl (lv_at hl 3 rfl) ?_
      refine lv_iload X.x X.b (dk DX6_triadsWith_0 25 rfl) (lv_at hl 4 rfl) ?_
      refine lv_iload_n X.x X.b (dk DX6_triadsWith_0 26 rfl) rfl (lv_at hl 1 rfl) ?_
      obtain ⟨x14, e15, hF⟩ := bd hF
      refine mr_ci0 hH ⟨rfl, rfl⟩ (mr_runS (As := [.ref (q1 5), .int b3, .int b4, .int b1]) (rest := [.int b2]) X hH (c_X6_triadsOf hq1 e15) kM_X6_74 kT_X6_triadsOf kN_X6 kC_X6_triadsOf hd_X6_triadsOf ⟨Nat.le_of_ble_eq_true rfl, Nat.le_of_ble_eq_true rfl⟩ rfl hl.1 (Nat.le_of_ble_eq_true rfl) (dk DX6_triadsWith_0 27 rfl) ⟨Nat.zero_le _, Nat.zero_le _⟩) (fun r h1 H locs hp hH => ?_)
      obtain ⟨hr1, hr2⟩ := hp; rw [hr1]; rw [hr2] at hH; clear hr1 hr2
      refine lv_iadd X.x X.b (dk DX6_triadsWith_0 28 rfl) ?_
      refine lv_topi (fun v17 e18 => ?_)
      replace hF := bnd_e hF e18
      refine lv_istore_n (lv' := [(2, .int v17), (0, .ref (q1 5)), (1, .int b1), (3, .int b3), (4, .int b4)]) X.x X.b (dk DX6_triadsWith_0 29 rfl) rfl hl (by decide) rfl (fun ls hl => ?_)
      replace hl : lv_has ls 5 [(0, .ref (q1 5)), (1, .int b1), (2, .int v17), (3, .int b3), (4, .int b4)] := lv_sub hl [1, 2, 0, 3, 4] rfl
      obtain ⟨v19, e20⟩ : ∃ y : Int32, y = b4 + 1 := ⟨_, rfl⟩
      replace hF := bnd_e hF e20
      refine lv_iinc (v := v19) (lv' := [(4, .int v19), (0, .ref (q1 5)), (1, .int b1), (2, .int v17), (3, .int b3)]) X.x X.b (dk DX6_triadsWith_0 30 rfl) hl (k := 4) rfl (by rw [e20]; rfl) (by decide) rfl (fun ls hl => ?_)
      replace hl : lv_has ls 5 [(0, .ref (q1 5)), (1, .int b1), (2, .int v17), (3, .int b3), (4, .int v19)] := lv_sub hl [1, 2, 3, 4, 0] rfl
      refine lv_goto (tgt := 17) X.x X.b (dk DX6_triadsWith_0 31 rfl) (by decide) ?_
      exact (lp_l hF hx) _ _ _ hH (lv_sub hl [0, 1, 2, 3, 4] rfl) K0
set_option maxHeartbeats 4000000 in
set_option maxRecDepth 100000 in
theorem w_X6_triadsWith_4 {p : Program} {l : Launch} {e : Env} {s : State} {m : MethodId} {args : Array Value} {below : List Frame} {meth : Method} {c : Code} {Q : State → Prop} {G : mG} {h : mM} {q1 : Nat → Nat} (hq1 : oinj LX10 q1) (X : mX G p m c cX6_triadsWith 5 s args RX6) (s_o1 : OS) (b1 : Int32) : ∀ (z : Int32 × Int32) (r : Int32), lpv (f_X6_triadsWith_4 s_o1 b1) z = some r → ∀ (H : Heap) (locs : List Loc) (ls : Array Slot), mH G (oset LX10 G q1 s_o1 h) s.heap H locs → lv_has ls 5 [(0, .ref (q1 5)), (1, .int b1), (2, .int z.1), (3, .int z.2)] → (∀ (H : Heap) (locs : List Loc) (ls : Array Slot), mH G (oset LX10 G q1 s_o1 h) s.heap H locs → lv_has ls 5 [(2, .int r)] → W p l e rm_X6_triadsWith s m args below meth c H locs 0 0 Q (F0 m 62 ls [])) → W p l e rm_X6_triadsWith s m args below meth c H locs 0 0 Q (F0 m 4 ls []) := by
  refine lpv_rec ?_
  intro z r x hF hx H locs ls hH hl K0
  obtain ⟨b2, b3⟩ := z
  dsimp only [f_X6_triadsWith_4] at hF
  try dsimp only at hH hl
  refine lv_iload_n X.x X.b (dk DX6_triadsWith_0 4 rfl) rfl (lv_at hl 3 rfl) ?_
  refine lv_aload_n X.x X.b (dk DX6_triadsWith_0 5 rfl) rfl (lv_at hl 0 rfl) ?_
  refine og_getIN OX10 X hq1 hH 0 (by decide) rfl kFN_X6_25 (dk DX6_triadsWith_0 6 rfl) ?_
  refine lv_icmp_ge (tgt := 62) X.x X.b (dk DX6_triadsWith_0 7 rfl) (by decide) (fun c1 => ?_) (fun c1 => ?_)
  · replace hF := if_t hF c1
    have hr9 := lp_r hF hx
    subst hr9
    exact K0 _ _ _ hH (lv_sub hl [2] rfl)
  · replace hF := if_f hF c1
    refine lv_iload_n X.x X.b (dk DX6_triadsWith_0 8 rfl) rfl (lv_at hl 3 rfl) ?_
    refine lv_iconst (v := 1) X.x X.b (dk DX6_triadsWith_0 9 rfl) (by decide) ?_
    refine lv_iadd X.x X.b (dk DX6_triadsWith_0 10 rfl) ?_
    refine lv_topi (fun v2 e3 => ?_)
    replace hF := bnd_e hF e3
    refine lv_istore (lv' := [(4, .int v2), (0, .ref (q1 5)), (1, .int b1), (2, .int b2), (3, .int b3)]) X.x X.b (dk DX6_triadsWith_0 11 rfl) hl (by decide) rfl (fun ls hl => ?_)
    replace hl : lv_has ls 5 [(0, .ref (q1 5)), (1, .int b1), (2, .int b2), (3, .int b3), (4, .int v2)] := lv_sub hl [1, 2, 3, 4, 0] rfl
    obtain ⟨x21, e22, hF⟩ := bd hF
    replace hl : lv_has ls 5 [(0, .ref (q1 5)), (1, .int b1), (2, .int b2), (3, .int b3), (4, .int v2)] := lv_sub hl [0, 1, 2, 3, 4] rfl
    refine w_X6_triadsWith_17 hq1 X s_o1 b1 b3 _ _ e22 _ _ _ hH hl (fun H locs ls hH hl => ?_)
    obtain ⟨v24, e25⟩ : ∃ y : Int32, y = b3 + 1 := ⟨_, rfl⟩
    replace hF := bnd_e hF e25
    refine lv_iinc (v := v24) (lv' := [(3, .int v24), (0, .ref (q1 5)), (1, .int b1), (2, .int x21)]) X.x X.b (dk DX6_triadsWith_0 32 rfl) hl (k := 3) rfl (by rw [e25]; rfl) (by decide) rfl (fun ls hl => ?_)
    replace hl : lv_has ls 5 [(0, .ref (q1 5)), (1, .int b1), (2, .int x21), (3, .int v24)] := lv_sub hl [1, 2, 3, 0] rfl
    refine lv_goto (tgt := 4) X.x X.b (dk DX6_triadsWith_0 33 rfl) (by decide) ?_
    exact (lp_l hF hx) _ _ _ hH (lv_sub hl [0, 1, 2, 3] rfl) K0
set_option maxHeartbeats 4000000 in
set_option maxRecDepth 100000 in
theorem c_X6_triadsWith {l : Launch} {G : mG} {h : mM} {q1 : Nat → Nat} (hq1 : oinj LX10 q1) {st1 : OS} {a1 : Int32} {x : Int32} (hF : f_X6_triadsWith st1 a1 = some x) : cQ l G yX6_triadsWith cX6_triadsWith 5 (some FieldType.int) rm_X6_triadsWith [.ref (q1 5), .int a1] (oset LX10 G q1 st1 h) (mQi G (fun r h1 => r = x ∧ h1 = oset LX10 G q1 st1 h)) := by
  refine mp_of (by decide +kernel) (Nat.le_of_ble_eq_true rfl) ?_
  intro p e s m below meth c X hr hlk hH hname ls hl
  dsimp only [f_X6_triadsWith] at hF
  replace hl : lv_has ls 5 [(0, .ref (q1 5)), (1, .int a1)] := hl
  refine lv_iconst (v := 0) X.x X.b (dk DX6_triadsWith_0 0 rfl) (by decide) ?_
  refine lv_istore_n (lv' := [(2, .int 0), (0, .ref (q1 5)), (1, .int a1)]) X.x X.b (dk DX6_triadsWith_0 1 rfl) rfl hl (by decide) rfl (fun ls hl => ?_)
  replace hl : lv_has ls 5 [(0, .ref (q1 5)), (1, .int a1), (2, .int 0)] := lv_sub hl [1, 2, 0] rfl
  refine lv_iconst (v := 0) X.x X.b (dk DX6_triadsWith_0 2 rfl) (by decide) ?_
  refine lv_istore_n (lv' := [(3, .int 0), (0, .ref (q1 5)), (1, .int a1), (2, .int 0)]) X.x X.b (dk DX6_triadsWith_0 3 rfl) rfl hl (by decide) rfl (fun ls hl => ?_)
  replace hl : lv_has ls 5 [(0, .ref (q1 5)), (1, .int a1), (2, .int 0), (3, .int 0)] := lv_sub hl [1, 2, 3, 0] rfl
  obtain ⟨x26, e27, hF⟩ := bd hF
  replace hl : lv_has ls 5 [(0, .ref (q1 5)), (1, .int a1), (2, .int 0), (3, .int 0)] := lv_sub hl [0, 1, 2, 3] rfl
  refine w_X6_triadsWith_4 hq1 X st1 a1 _ _ e27 _ _ _ hH hl (fun H locs ls hH hl => ?_)
  refine lv_iload_n X.x X.b (dk DX6_triadsWith_0 34 rfl) rfl (lv_at hl 0 rfl) ?_
  cases sm hF
  exact mr_iret X hr hlk hH ⟨rfl, rfl⟩ (dk DX6_triadsWith_0 35 rfl)
-- X7_becomeEmpty
abbrev rm_X7_becomeEmpty : Room := { frames := 1, cells := 0, slots := 0, locals := 24 }
theorem hd_X7_becomeEmpty : mHd yX7_becomeEmpty 2 := ⟨by decide +kernel, by decide +kernel, by decide +kernel⟩
theorem DX7_becomeEmpty_0 : ∀ t ∈ ([(0, .aload_n 0, 1), (1, .iload_n 1, 1), (2, .putfield 13, 3), (5, .aload_n 0, 1), (6, .iload_n 2, 1), (7, .bipush 40, 2), (9, .invokestatic 17, 3), (12, .putfield 23, 3), (15, .aload_n 0, 1), (16, .getfield 9, 3), (19, .lconst 0, 1), (20, .invokestatic 26, 3), (23, .return_, 1)] : List (Nat × Instr × Nat)), decode cX7_becomeEmpty t.1 = .ok (t.2.1, t.2.2) := by decide +kernel
noncomputable def f_X7_becomeEmpty (st : OS) (a0 : Int32) (a1 : Int32) : Option (OS) := bnd (oI st 0 a0) (fun t1 => (f_J9_min_7cf53 a1 40).bind (fun x3 => bnd (oI t1 1 x3) (fun t6 => bnd (oB t6 2 (fillF 40 0 (t6.2.2.2 2))) (fun t8 => some t8))))
set_option maxHeartbeats 4000000 in
set_option maxRecDepth 100000 in
theorem c_X7_becomeEmpty {l : Launch} {G : mG} {h : mM} {q : Nat → Nat} (hq : oinj LX7 q) {st : OS} {a0 : Int32} {a1 : Int32} {x : OS} (hF : f_X7_becomeEmpty st a0 a1 = some x) : cQ l G yX7_becomeEmpty cX7_becomeEmpty 3 none rm_X7_becomeEmpty [.ref (q 3), .int a0, .int a1] (oset LX7 G q st h) (mQv G (fun h1 => h1 = oset LX7 G q x h)) := by
  refine mp_of (by decide +kernel) (Nat.le_of_ble_eq_true rfl) ?_
  intro p e s m below meth c X hr hlk hH hname ls hl
  dsimp only [f_X7_becomeEmpty] at hF
  replace hl : lv_has ls 3 [(0, .ref (q 3)), (1, .int a0), (2, .int a1)] := hl
  refine lv_aload_n X.x X.b (dk DX7_becomeEmpty_0 0 rfl) rfl (lv_at hl 0 rfl) ?_
  refine lv_iload_n X.x X.b (dk DX7_becomeEmpty_0 1 rfl) rfl (lv_at hl 1 rfl) ?_
  refine og_putI OX7 X hq hH 0 (by decide) rfl kF_X7_13 rfl rfl rfl (dk DX7_becomeEmpty_0 2 rfl) (fun H locs hH => ?_)
  obtain ⟨t1, e2⟩ : ∃ y, y = oI st 0 a0 := ⟨_, rfl⟩
  rw [← e2] at hH
  replace hF := bnd_e hF e2
  refine lv_aload_n X.x X.b (dk DX7_becomeEmpty_0 3 rfl) rfl (lv_at hl 0 rfl) ?_
  refine lv_iload_n X.x X.b (dk DX7_becomeEmpty_0 4 rfl) rfl (lv_at hl 2 rfl) ?_
  refine lv_bipush (v := 40) X.x X.b (dk DX7_becomeEmpty_0 5 rfl) (by decide) ?_
  obtain ⟨x3, e4, hF⟩ := bd hF
  refine mr_ci0 hH ⟨rfl, rfl⟩ (mr_runS (As := [.int a1, .int 40]) (rest := [.ref (q 3)]) X hH (c_J9_min_7cf53 e4) kM_X7_17 kT_J9_min_7cf53 kN_J9 kC_J9_min_7cf53 hd_J9_min_7cf53 ⟨Nat.le_of_ble_eq_true rfl, Nat.le_of_ble_eq_true rfl⟩ rfl hl.1 (Nat.le_of_ble_eq_true rfl) (dk DX7_becomeEmpty_0 6 rfl) ⟨Nat.zero_le _, Nat.zero_le _⟩) (fun r h1 H locs hp hH => ?_)
  obtain ⟨hr1, hr2⟩ := hp; rw [hr1]; rw [hr2] at hH; clear hr1 hr2
  refine og_putI OX7 X hq hH 1 (by decide) rfl kF_X7_23 rfl rfl rfl (dk DX7_becomeEmpty_0 7 rfl) (fun H locs hH => ?_)
  obtain ⟨t6, e7⟩ : ∃ y, y = oI t1 1 x3 := ⟨_, rfl⟩
  rw [← e7] at hH
  replace hF := bnd_e hF e7
  refine lv_aload_n X.x X.b (dk DX7_becomeEmpty_0 8 rfl) rfl (lv_at hl 0 rfl) ?_
  refine og_getR (t := 1) OX7 X hq hH 2 (by decide) rfl kF_X7_9 (dk DX7_becomeEmpty_0 9 rfl) ?_
  refine lv_lconst (v := 0) X.x X.b (dk DX7_becomeEmpty_0 10 rfl) (by decide) ?_
  refine mr_cv0 hH ⟨rfl, rfl⟩ (mr_runS (As := [.ref (q 2), .long 0]) (rest := []) X hH (c_J7_fill_d0a16 ((oset_at hq (k := 2) (by decide) rfl).trans (congrArg some (oc_k (t := 3) (n := 40) (by decide) rfl))) (by decide) 0) kM_X7_26 kT_J7_fill_d0a16 kN_J7 kC_J7_fill_d0a16 hd_J7_fill_d0a16 ⟨Nat.le_of_ble_eq_true rfl, Nat.le_of_ble_eq_true rfl⟩ rfl hl.1 (Nat.le_of_ble_eq_true rfl) (dk DX7_becomeEmpty_0 11 rfl) ⟨Nat.zero_le _, Nat.zero_le _⟩) (fun h1 H locs hp hH => ?_)
  rw [hp, oup_B hq 2 (by decide) rfl] at hH; clear hp
  obtain ⟨t8, e9⟩ : ∃ y, y = oB t6 2 (fillF 40 0 (t6.2.2.2 2)) := ⟨_, rfl⟩
  rw [← e9] at hH
  replace hF := bnd_e hF e9
  cases sm hF
  exact mr_vret X hr hlk hH rfl (dk DX7_becomeEmpty_0 12 rfl)
-- X7_cellAt
abbrev rm_X7_cellAt : Room := { frames := 0, cells := 0, slots := 0, locals := 0 }
theorem hd_X7_cellAt : mHd yX7_cellAt 1 := ⟨by decide +kernel, by decide +kernel, by decide +kernel⟩
theorem DX7_cellAt_0 : ∀ t ∈ ([(0, .iload_n 1, 1), (1, .ifCond .lt 26, 3), (4, .iload_n 1, 1), (5, .aload_n 0, 1), (6, .getfield 23, 3), (9, .if_icmp .ge 18, 3), (12, .iload_n 1, 1), (13, .bipush 40, 2), (15, .if_icmp .ge 12, 3), (18, .aload_n 0, 1), (19, .getfield 9, 3), (22, .iload_n 1, 1), (23, .laload, 1), (24, .goto 4, 3), (27, .lconst 0, 1), (28, .lreturn, 1)] : List (Nat × Instr × Nat)), decode cX7_cellAt t.1 = .ok (t.2.1, t.2.2) := by decide +kernel
noncomputable def f_X7_cellAt (st : OS) (a0 : Int32) : Option (Int64) := (if a0 < 0 then some 0 else (if (st.1 1) ≤ a0 then some 0 else (if 40 ≤ a0 then some 0 else if inb a0 40 = true then some (st.2.2.2 2 (a0 : Int32).toNatClampNeg) else none)))
set_option maxHeartbeats 4000000 in
set_option maxRecDepth 100000 in
theorem c_X7_cellAt {l : Launch} {G : mG} {h : mM} {q : Nat → Nat} (hq : oinj LX7 q) {st : OS} {a0 : Int32} {x : Int64} (hF : f_X7_cellAt st a0 = some x) : cQ l G yX7_cellAt cX7_cellAt 2 (some FieldType.long) rm_X7_cellAt [.ref (q 3), .int a0] (oset LX7 G q st h) (mQl G (fun r h1 => r = x ∧ h1 = oset LX7 G q st h)) := by
  refine mp_of (by decide +kernel) (Nat.le_of_ble_eq_true rfl) ?_
  intro p e s m below meth c X hr hlk hH hname ls hl
  dsimp only [f_X7_cellAt] at hF
  replace hl : lv_has ls 2 [(0, .ref (q 3)), (1, .int a0)] := hl
  refine lv_iload_n X.x X.b (dk DX7_cellAt_0 0 rfl) rfl (lv_at hl 1 rfl) ?_
  refine lv_if_lt (tgt := 27) X.x X.b (dk DX7_cellAt_0 1 rfl) (by decide) (fun c1 => ?_) (fun c1 => ?_)
  · replace hF := if_t hF c1
    refine lv_lconst (v := 0) X.x X.b (dk DX7_cellAt_0 14 rfl) (by decide) ?_
    cases sm hF
    exact mr_lret X hr hlk hH ⟨rfl, rfl⟩ (dk DX7_cellAt_0 15 rfl)
  · replace hF := if_f hF c1
    refine lv_iload_n X.x X.b (dk DX7_cellAt_0 2 rfl) rfl (lv_at hl 1 rfl) ?_
    refine lv_aload_n X.x X.b (dk DX7_cellAt_0 3 rfl) rfl (lv_at hl 0 rfl) ?_
    refine og_getI OX7 X hq hH 1 (by decide) rfl kF_X7_23 (dk DX7_cellAt_0 4 rfl) ?_
    refine lv_icmp_ge (tgt := 27) X.x X.b (dk DX7_cellAt_0 5 rfl) (by decide) (fun c2 => ?_) (fun c2 => ?_)
    · replace hF := if_t hF c2
      refine lv_lconst (v := 0) X.x X.b (dk DX7_cellAt_0 14 rfl) (by decide) ?_
      cases sm hF
      exact mr_lret X hr hlk hH ⟨rfl, rfl⟩ (dk DX7_cellAt_0 15 rfl)
    · replace hF := if_f hF c2
      refine lv_iload_n X.x X.b (dk DX7_cellAt_0 6 rfl) rfl (lv_at hl 1 rfl) ?_
      refine lv_bipush (v := 40) X.x X.b (dk DX7_cellAt_0 7 rfl) (by decide) ?_
      refine lv_icmp_ge (tgt := 27) X.x X.b (dk DX7_cellAt_0 8 rfl) (by decide) (fun c3 => ?_) (fun c3 => ?_)
      · replace hF := if_t hF c3
        refine lv_lconst (v := 0) X.x X.b (dk DX7_cellAt_0 14 rfl) (by decide) ?_
        cases sm hF
        exact mr_lret X hr hlk hH ⟨rfl, rfl⟩ (dk DX7_cellAt_0 15 rfl)
      · replace hF := if_f hF c3
        refine lv_aload_n X.x X.b (dk DX7_cellAt_0 9 rfl) rfl (lv_at hl 0 rfl) ?_
        refine og_getR (t := 1) OX7 X hq hH 2 (by decide) rfl kF_X7_9 (dk DX7_cellAt_0 10 rfl) ?_
        refine lv_iload_n X.x X.b (dk DX7_cellAt_0 11 rfl) rfl (lv_at hl 1 rfl) ?_
        obtain ⟨c4, hF⟩ := gd hF
        refine og_lald X hq hH 2 (by decide) rfl (inb_in c4) (dk DX7_cellAt_0 12 rfl) ?_
        refine lv_goto (tgt := 28) X.x X.b (dk DX7_cellAt_0 13 rfl) (by decide) ?_
        cases sm hF
        exact mr_lret X hr hlk hH ⟨rfl, rfl⟩ (dk DX7_cellAt_0 15 rfl)
-- X7_cut
abbrev rm_X7_cut : Room := { frames := 0, cells := 0, slots := 0, locals := 0 }
theorem hd_X7_cut : mHd yX7_cut 1 := ⟨by decide +kernel, by decide +kernel, by decide +kernel⟩
theorem DX7_cut_0 : ∀ t ∈ ([(0, .aload_n 0, 1), (1, .getfield 13, 3), (4, .tableswitch 42 0 2 #[28, 33, 38], 28), (32, .lload_n 1, 1), (33, .l2i, 1), (34, .i2b, 1), (35, .i2l, 1), (36, .lreturn, 1), (37, .lload_n 1, 1), (38, .l2i, 1), (39, .i2s, 1), (40, .i2l, 1), (41, .lreturn, 1), (42, .lload_n 1, 1), (43, .l2i, 1), (44, .i2l, 1), (45, .lreturn, 1), (46, .lload_n 1, 1), (47, .lreturn, 1)] : List (Nat × Instr × Nat)), decode cX7_cut t.1 = .ok (t.2.1, t.2.2) := by decide +kernel
noncomputable def f_X7_cut (st : OS) (a0 : Int64) : Option (Int64) := (if st.1 0 = 0 then some ((((a0 : Int64).toInt32 : Int32).toInt8.toInt32 : Int32).toInt64) else (if st.1 0 = 1 then some ((((a0 : Int64).toInt32 : Int32).toInt16.toInt32 : Int32).toInt64) else (if st.1 0 = 2 then some (((a0 : Int64).toInt32 : Int32).toInt64) else some a0)))
set_option maxHeartbeats 4000000 in
set_option maxRecDepth 100000 in
theorem c_X7_cut {l : Launch} {G : mG} {h : mM} {q : Nat → Nat} (hq : oinj LX7 q) {st : OS} {a0 : Int64} {x : Int64} (hF : f_X7_cut st a0 = some x) : cQ l G yX7_cut cX7_cut 3 (some FieldType.long) rm_X7_cut [.ref (q 3), .long a0] (oset LX7 G q st h) (mQl G (fun r h1 => r = x ∧ h1 = oset LX7 G q st h)) := by
  refine mp_of (by decide +kernel) (Nat.le_of_ble_eq_true rfl) ?_
  intro p e s m below meth c X hr hlk hH hname ls hl
  dsimp only [f_X7_cut] at hF
  replace hl : lv_has ls 3 [(0, .ref (q 3)), (1, .long a0)] := hl
  refine lv_aload_n X.x X.b (dk DX7_cut_0 0 rfl) rfl (lv_at hl 0 rfl) ?_
  refine og_getI OX7 X hq hH 0 (by decide) rfl kF_X7_13 (dk DX7_cut_0 1 rfl) ?_
  by_cases c1 : st.1 0 = 0
  · refine lv_tableIn (tgt := 32) X.x X.b (dk DX7_cut_0 2 rfl) (by rw [c1]; decide) (by rw [c1]; decide) (by rw [c1]; rfl) (by decide) ?_
    replace hF := if_t hF c1
    refine lv_lload_n X.x X.b (dk DX7_cut_0 3 rfl) rfl (lv_at hl 1 rfl) ?_
    refine lv_l2i X.x X.b (dk DX7_cut_0 4 rfl) rfl ?_
    refine lv_i2b X.x X.b (dk DX7_cut_0 5 rfl) rfl ?_
    refine lv_i2l X.x X.b (dk DX7_cut_0 6 rfl) rfl ?_
    cases sm hF
    exact mr_lret X hr hlk hH ⟨rfl, rfl⟩ (dk DX7_cut_0 7 rfl)
  · replace hF := if_f hF c1
    by_cases c2 : st.1 0 = 1
    · refine lv_tableIn (tgt := 37) X.x X.b (dk DX7_cut_0 2 rfl) (by rw [c2]; decide) (by rw [c2]; decide) (by rw [c2]; rfl) (by decide) ?_
      replace hF := if_t hF c2
      refine lv_lload_n X.x X.b (dk DX7_cut_0 8 rfl) rfl (lv_at hl 1 rfl) ?_
      refine lv_l2i X.x X.b (dk DX7_cut_0 9 rfl) rfl ?_
      refine lv_i2s X.x X.b (dk DX7_cut_0 10 rfl) rfl ?_
      refine lv_i2l X.x X.b (dk DX7_cut_0 11 rfl) rfl ?_
      cases sm hF
      exact mr_lret X hr hlk hH ⟨rfl, rfl⟩ (dk DX7_cut_0 12 rfl)
    · replace hF := if_f hF c2
      by_cases c3 : st.1 0 = 2
      · refine lv_tableIn (tgt := 42) X.x X.b (dk DX7_cut_0 2 rfl) (by rw [c3]; decide) (by rw [c3]; decide) (by rw [c3]; rfl) (by decide) ?_
        replace hF := if_t hF c3
        refine lv_lload_n X.x X.b (dk DX7_cut_0 13 rfl) rfl (lv_at hl 1 rfl) ?_
        refine lv_l2i X.x X.b (dk DX7_cut_0 14 rfl) rfl ?_
        refine lv_i2l X.x X.b (dk DX7_cut_0 15 rfl) rfl ?_
        cases sm hF
        exact mr_lret X hr hlk hH ⟨rfl, rfl⟩ (dk DX7_cut_0 16 rfl)
      · replace hF := if_f hF c3
        refine lv_tableOut (tgt := 46) X.x X.b (dk DX7_cut_0 2 rfl) (by have := lv_neT (k := 0) (a := 0) c1 (by decide); have := lv_neT (k := 1) (a := 1) c2 (by decide); have := lv_neT (k := 2) (a := 2) c3 (by decide); omega) (by decide) ?_
        refine lv_lload_n X.x X.b (dk DX7_cut_0 17 rfl) rfl (lv_at hl 1 rfl) ?_
        cases sm hF
        exact mr_lret X hr hlk hH ⟨rfl, rfl⟩ (dk DX7_cut_0 18 rfl)
-- X7_put
abbrev rm_X7_put : Room := { frames := 1, cells := 0, slots := 0, locals := 22 }
theorem hd_X7_put : mHd yX7_put 2 := ⟨by decide +kernel, by decide +kernel, by decide +kernel⟩
theorem DX7_put_0 : ∀ t ∈ ([(0, .iload_n 1, 1), (1, .ifCond .lt 28, 3), (4, .iload_n 1, 1), (5, .aload_n 0, 1), (6, .getfield 23, 3), (9, .if_icmp .ge 20, 3), (12, .iload_n 1, 1), (13, .bipush 40, 2), (15, .if_icmp .ge 14, 3), (18, .aload_n 0, 1), (19, .getfield 9, 3), (22, .iload_n 1, 1), (23, .aload_n 0, 1), (24, .lload_n 2, 1), (25, .invokevirtual 32, 3), (28, .lastore, 1), (29, .return_, 1)] : List (Nat × Instr × Nat)), decode cX7_put t.1 = .ok (t.2.1, t.2.2) := by decide +kernel
noncomputable def f_X7_put (st : OS) (a0 : Int32) (a1 : Int64) : Option (OS) := (if a0 < 0 then some st else (if (st.1 1) ≤ a0 then some st else (if 40 ≤ a0 then some st else (f_X7_cut st a1).bind (fun x4 => if inb a0 40 = true then bnd (oB st 2 (vp_updL (st.2.2.2 2) (a0 : Int32).toNatClampNeg x4)) (fun t8 => some t8) else none))))
set_option maxHeartbeats 4000000 in
set_option maxRecDepth 100000 in
theorem c_X7_put {l : Launch} {G : mG} {h : mM} {q : Nat → Nat} (hq : oinj LX7 q) {st : OS} {a0 : Int32} {a1 : Int64} {x : OS} (hF : f_X7_put st a0 a1 = some x) : cQ l G yX7_put cX7_put 4 none rm_X7_put [.ref (q 3), .int a0, .long a1] (oset LX7 G q st h) (mQv G (fun h1 => h1 = oset LX7 G q x h)) := by
  refine mp_of (by decide +kernel) (Nat.le_of_ble_eq_true rfl) ?_
  intro p e s m below meth c X hr hlk hH hname ls hl
  dsimp only [f_X7_put] at hF
  replace hl : lv_has ls 4 [(0, .ref (q 3)), (1, .int a0), (2, .long a1)] := hl
  refine lv_iload_n X.x X.b (dk DX7_put_0 0 rfl) rfl (lv_at hl 1 rfl) ?_
  refine lv_if_lt (tgt := 29) X.x X.b (dk DX7_put_0 1 rfl) (by decide) (fun c1 => ?_) (fun c1 => ?_)
  · replace hF := if_t hF c1
    cases sm hF
    exact mr_vret X hr hlk hH rfl (dk DX7_put_0 16 rfl)
  · replace hF := if_f hF c1
    refine lv_iload_n X.x X.b (dk DX7_put_0 2 rfl) rfl (lv_at hl 1 rfl) ?_
    refine lv_aload_n X.x X.b (dk DX7_put_0 3 rfl) rfl (lv_at hl 0 rfl) ?_
    refine og_getI OX7 X hq hH 1 (by decide) rfl kF_X7_23 (dk DX7_put_0 4 rfl) ?_
    refine lv_icmp_ge (tgt := 29) X.x X.b (dk DX7_put_0 5 rfl) (by decide) (fun c2 => ?_) (fun c2 => ?_)
    · replace hF := if_t hF c2
      cases sm hF
      exact mr_vret X hr hlk hH rfl (dk DX7_put_0 16 rfl)
    · replace hF := if_f hF c2
      refine lv_iload_n X.x X.b (dk DX7_put_0 6 rfl) rfl (lv_at hl 1 rfl) ?_
      refine lv_bipush (v := 40) X.x X.b (dk DX7_put_0 7 rfl) (by decide) ?_
      refine lv_icmp_ge (tgt := 29) X.x X.b (dk DX7_put_0 8 rfl) (by decide) (fun c3 => ?_) (fun c3 => ?_)
      · replace hF := if_t hF c3
        cases sm hF
        exact mr_vret X hr hlk hH rfl (dk DX7_put_0 16 rfl)
      · replace hF := if_f hF c3
        refine lv_aload_n X.x X.b (dk DX7_put_0 9 rfl) rfl (lv_at hl 0 rfl) ?_
        refine og_getR (t := 1) OX7 X hq hH 2 (by decide) rfl kF_X7_9 (dk DX7_put_0 10 rfl) ?_
        refine lv_iload_n X.x X.b (dk DX7_put_0 11 rfl) rfl (lv_at hl 1 rfl) ?_
        refine lv_aload_n X.x X.b (dk DX7_put_0 12 rfl) rfl (lv_at hl 0 rfl) ?_
        refine lv_lload_n X.x X.b (dk DX7_put_0 13 rfl) rfl (lv_at hl 2 rfl) ?_
        obtain ⟨x4, e5, hF⟩ := bd hF
        refine mr_cl0 hH ⟨rfl, rfl⟩ (mr_runV (As := [.long a1]) (rest := [.int a0, .ref (q 2)]) X hH (c_X7_cut hq e5) ((oset_at hq (Nat.le_refl _) ohas_N).trans (congrArg some ocell_N)) OX7.1 kM_X7_32 kI_X7_cut kS_X7_cut kN_X7 kC_X7_cut hd_X7_cut ⟨Nat.le_of_ble_eq_true rfl, Nat.le_of_ble_eq_true rfl⟩ rfl hl.1 (Nat.le_of_ble_eq_true rfl) (dk DX7_put_0 14 rfl) ⟨Nat.zero_le _, Nat.zero_le _⟩) (fun r h1 H locs hp hH => ?_)
        obtain ⟨hr1, hr2⟩ := hp; rw [hr1]; rw [hr2] at hH; clear hr1 hr2
        obtain ⟨c7, hF⟩ := gd hF
        refine og_last X hq hH 2 (by decide) rfl (inb_in c7) (dk DX7_put_0 15 rfl) (fun H locs hH => ?_)
        obtain ⟨t8, e9⟩ : ∃ y, y = oB st 2 (vp_updL (st.2.2.2 2) (a0 : Int32).toNatClampNeg x4) := ⟨_, rfl⟩
        rw [← e9] at hH
        replace hF := bnd_e hF e9
        cases sm hF
        exact mr_vret X hr hlk hH rfl (dk DX7_put_0 16 rfl)
-- X8_becomeOneKind
abbrev rm_X8_becomeOneKind : Room := { frames := 1, cells := 0, slots := 0, locals := 20 }
theorem hd_X8_becomeOneKind : mHd yX8_becomeOneKind 2 := ⟨by decide +kernel, by decide +kernel, by decide +kernel⟩
theorem DX8_becomeOneKind_0 : ∀ t ∈ ([(0, .aload_n 0, 1), (1, .getfield 26, 3), (4, .iload_n 1, 1), (5, .iload_n 2, 1), (6, .ifCond .le 7, 3), (9, .iconst 1, 1), (10, .goto 4, 3), (13, .iconst 0, 1), (14, .iastore, 1), (15, .aload_n 0, 1), (16, .getfield 30, 3), (19, .iload_n 1, 1), (20, .bipush 64, 2), (22, .imul, 1), (23, .iload_n 2, 1), (24, .invokestatic 136, 3), (27, .lastore, 1), (28, .aload_n 0, 1), (29, .getfield 33, 3), (32, .iload_n 1, 1), (33, .bipush 64, 2), (35, .imul, 1), (36, .iload_n 2, 1), (37, .invokestatic 136, 3), (40, .lastore, 1), (41, .return_, 1)] : List (Nat × Instr × Nat)), decode cX8_becomeOneKind t.1 = .ok (t.2.1, t.2.2) := by decide +kernel
noncomputable def f_X8_becomeOneKind (st : OS) (a0 : Int32) (a1 : Int32) : Option (OS) := (if a1 ≤ 0 then if inb a0 17 = true then bnd (oA st 6 (upd (st.2.2.1 6) (a0 : Int32).toNatClampNeg 0)) (fun t3 => (f_X10_first a1).bind (fun x5 => if inb (a0 * 64) 1088 = true then bnd (oB t3 7 (vp_updL (t3.2.2.2 7) (a0 * 64 : Int32).toNatClampNeg x5)) (fun t9 => (f_X10_first a1).bind (fun x11 => bnd (oB t9 8 (vp_updL (t9.2.2.2 8) (a0 * 64 : Int32).toNatClampNeg x11)) (fun t14 => some t14))) else none)) else none else if inb a0 17 = true then bnd (oA st 6 (upd (st.2.2.1 6) (a0 : Int32).toNatClampNeg 1)) (fun t17 => (f_X10_first a1).bind (fun x19 => if inb (a0 * 64) 1088 = true then bnd (oB t17 7 (vp_updL (t17.2.2.2 7) (a0 * 64 : Int32).toNatClampNeg x19)) (fun t23 => (f_X10_first a1).bind (fun x25 => bnd (oB t23 8 (vp_updL (t23.2.2.2 8) (a0 * 64 : Int32).toNatClampNeg x25)) (fun t28 => some t28))) else none)) else none)
set_option maxHeartbeats 4000000 in
set_option maxRecDepth 100000 in
theorem c_X8_becomeOneKind {l : Launch} {G : mG} {h : mM} {q : Nat → Nat} (hq : oinj LX8 q) {st : OS} {a0 : Int32} {a1 : Int32} {x : OS} (hF : f_X8_becomeOneKind st a0 a1 = some x) : cQ l G yX8_becomeOneKind cX8_becomeOneKind 3 none rm_X8_becomeOneKind [.ref (q 15), .int a0, .int a1] (oset LX8 G q st h) (mQv G (fun h1 => h1 = oset LX8 G q x h)) := by
  refine mp_of (by decide +kernel) (Nat.le_of_ble_eq_true rfl) ?_
  intro p e s m below meth c X hr hlk hH hname ls hl
  dsimp only [f_X8_becomeOneKind] at hF
  replace hl : lv_has ls 3 [(0, .ref (q 15)), (1, .int a0), (2, .int a1)] := hl
  refine lv_aload_n X.x X.b (dk DX8_becomeOneKind_0 0 rfl) rfl (lv_at hl 0 rfl) ?_
  refine og_getR (t := 0) OX8 X hq hH 6 (by decide) rfl kF_X8_26 (dk DX8_becomeOneKind_0 1 rfl) ?_
  refine lv_iload_n X.x X.b (dk DX8_becomeOneKind_0 2 rfl) rfl (lv_at hl 1 rfl) ?_
  refine lv_iload_n X.x X.b (dk DX8_becomeOneKind_0 3 rfl) rfl (lv_at hl 2 rfl) ?_
  refine lv_if_le (tgt := 13) X.x X.b (dk DX8_becomeOneKind_0 4 rfl) (by decide) (fun c1 => ?_) (fun c1 => ?_)
  · replace hF := if_t hF c1
    refine lv_iconst (v := 0) X.x X.b (dk DX8_becomeOneKind_0 7 rfl) (by decide) ?_
    obtain ⟨c2, hF⟩ := gd hF
    refine og_iast X hq hH 6 (by decide) rfl (inb_in c2) (dk DX8_becomeOneKind_0 8 rfl) (fun H locs hH => ?_)
    obtain ⟨t3, e4⟩ : ∃ y, y = oA st 6 (upd (st.2.2.1 6) (a0 : Int32).toNatClampNeg 0) := ⟨_, rfl⟩
    rw [← e4] at hH
    replace hF := bnd_e hF e4
    refine lv_aload_n X.x X.b (dk DX8_becomeOneKind_0 9 rfl) rfl (lv_at hl 0 rfl) ?_
    refine og_getR (t := 1) OX8 X hq hH 7 (by decide) rfl kF_X8_30 (dk DX8_becomeOneKind_0 10 rfl) ?_
    refine lv_iload_n X.x X.b (dk DX8_becomeOneKind_0 11 rfl) rfl (lv_at hl 1 rfl) ?_
    refine lv_bipush (v := 64) X.x X.b (dk DX8_becomeOneKind_0 12 rfl) (by decide) ?_
    refine lv_imul X.x X.b (dk DX8_becomeOneKind_0 13 rfl) ?_
    refine lv_iload_n X.x X.b (dk DX8_becomeOneKind_0 14 rfl) rfl (lv_at hl 2 rfl) ?_
    obtain ⟨x5, e6, hF⟩ := bd hF
    refine mr_cl0 hH ⟨rfl, rfl⟩ (mr_runS (As := [.int a1]) (rest := [.int (a0 * 64), .ref (q 7)]) X hH (c_X10_first e6) kM_X8_136 kT_X10_first kN_X10 kC_X10_first hd_X10_first ⟨Nat.le_of_ble_eq_true rfl, Nat.le_of_ble_eq_true rfl⟩ rfl hl.1 (Nat.le_of_ble_eq_true rfl) (dk DX8_becomeOneKind_0 15 rfl) ⟨Nat.zero_le _, Nat.zero_le _⟩) (fun r h1 H locs hp hH => ?_)
    obtain ⟨hr1, hr2⟩ := hp; rw [hr1]; rw [hr2] at hH; clear hr1 hr2
    obtain ⟨c8, hF⟩ := gd hF
    refine og_last X hq hH 7 (by decide) rfl (inb_in c8) (dk DX8_becomeOneKind_0 16 rfl) (fun H locs hH => ?_)
    obtain ⟨t9, e10⟩ : ∃ y, y = oB t3 7 (vp_updL (t3.2.2.2 7) (a0 * 64 : Int32).toNatClampNeg x5) := ⟨_, rfl⟩
    rw [← e10] at hH
    replace hF := bnd_e hF e10
    refine lv_aload_n X.x X.b (dk DX8_becomeOneKind_0 17 rfl) rfl (lv_at hl 0 rfl) ?_
    refine og_getR (t := 1) OX8 X hq hH 8 (by decide) rfl kF_X8_33 (dk DX8_becomeOneKind_0 18 rfl) ?_
    refine lv_iload_n X.x X.b (dk DX8_becomeOneKind_0 19 rfl) rfl (lv_at hl 1 rfl) ?_
    refine lv_bipush (v := 64) X.x X.b (dk DX8_becomeOneKind_0 20 rfl) (by decide) ?_
    refine lv_imul X.x X.b (dk DX8_becomeOneKind_0 21 rfl) ?_
    refine lv_iload_n X.x X.b (dk DX8_becomeOneKind_0 22 rfl) rfl (lv_at hl 2 rfl) ?_
    obtain ⟨x11, e12, hF⟩ := bd hF
    refine mr_cl0 hH ⟨rfl, rfl⟩ (mr_runS (As := [.int a1]) (rest := [.int (a0 * 64), .ref (q 8)]) X hH (c_X10_first e12) kM_X8_136 kT_X10_first kN_X10 kC_X10_first hd_X10_first ⟨Nat.le_of_ble_eq_true rfl, Nat.le_of_ble_eq_true rfl⟩ rfl hl.1 (Nat.le_of_ble_eq_true rfl) (dk DX8_becomeOneKind_0 23 rfl) ⟨Nat.zero_le _, Nat.zero_le _⟩) (fun r h1 H locs hp hH => ?_)
    obtain ⟨hr1, hr2⟩ := hp; rw [hr1]; rw [hr2] at hH; clear hr1 hr2
    refine og_last X hq hH 8 (by decide) rfl (inb_in c8) (dk DX8_becomeOneKind_0 24 rfl) (fun H locs hH => ?_)
    obtain ⟨t14, e15⟩ : ∃ y, y = oB t9 8 (vp_updL (t9.2.2.2 8) (a0 * 64 : Int32).toNatClampNeg x11) := ⟨_, rfl⟩
    rw [← e15] at hH
    replace hF := bnd_e hF e15
    cases sm hF
    exact mr_vret X hr hlk hH rfl (dk DX8_becomeOneKind_0 25 rfl)
  · replace hF := if_f hF c1
    refine lv_iconst (v := 1) X.x X.b (dk DX8_becomeOneKind_0 5 rfl) (by decide) ?_
    refine lv_goto (tgt := 14) X.x X.b (dk DX8_becomeOneKind_0 6 rfl) (by decide) ?_
    obtain ⟨c16, hF⟩ := gd hF
    refine og_iast X hq hH 6 (by decide) rfl (inb_in c16) (dk DX8_becomeOneKind_0 8 rfl) (fun H locs hH => ?_)
    obtain ⟨t17, e18⟩ : ∃ y, y = oA st 6 (upd (st.2.2.1 6) (a0 : Int32).toNatClampNeg 1) := ⟨_, rfl⟩
    rw [← e18] at hH
    replace hF := bnd_e hF e18
    refine lv_aload_n X.x X.b (dk DX8_becomeOneKind_0 9 rfl) rfl (lv_at hl 0 rfl) ?_
    refine og_getR (t := 1) OX8 X hq hH 7 (by decide) rfl kF_X8_30 (dk DX8_becomeOneKind_0 10 rfl) ?_
    refine lv_iload_n X.x X.b (dk DX8_becomeOneKind_0 11 rfl) rfl (lv_at hl 1 rfl) ?_
    refine lv_bipush (v := 64) X.x X.b (dk DX8_becomeOneKind_0 12 rfl) (by decide) ?_
    refine lv_imul X.x X.b (dk DX8_becomeOneKind_0 13 rfl) ?_
    refine lv_iload_n X.x X.b (dk DX8_becomeOneKind_0 14 rfl) rfl (lv_at hl 2 rfl) ?_
    obtain ⟨x19, e20, hF⟩ := bd hF
    refine mr_cl0 hH ⟨rfl, rfl⟩ (mr_runS (As := [.int a1]) (rest := [.int (a0 * 64), .ref (q 7)]) X hH (c_X10_first e20) kM_X8_136 kT_X10_first kN_X10 kC_X10_first hd_X10_first ⟨Nat.le_of_ble_eq_true rfl, Nat.le_of_ble_eq_true rfl⟩ rfl hl.1 (Nat.le_of_ble_eq_true rfl) (dk DX8_becomeOneKind_0 15 rfl) ⟨Nat.zero_le _, Nat.zero_le _⟩) (fun r h1 H locs hp hH => ?_)
    obtain ⟨hr1, hr2⟩ := hp; rw [hr1]; rw [hr2] at hH; clear hr1 hr2
    obtain ⟨c22, hF⟩ := gd hF
    refine og_last X hq hH 7 (by decide) rfl (inb_in c22) (dk DX8_becomeOneKind_0 16 rfl) (fun H locs hH => ?_)
    obtain ⟨t23, e24⟩ : ∃ y, y = oB t17 7 (vp_updL (t17.2.2.2 7) (a0 * 64 : Int32).toNatClampNeg x19) := ⟨_, rfl⟩
    rw [← e24] at hH
    replace hF := bnd_e hF e24
    refine lv_aload_n X.x X.b (dk DX8_becomeOneKind_0 17 rfl) rfl (lv_at hl 0 rfl) ?_
    refine og_getR (t := 1) OX8 X hq hH 8 (by decide) rfl kF_X8_33 (dk DX8_becomeOneKind_0 18 rfl) ?_
    refine lv_iload_n X.x X.b (dk DX8_becomeOneKind_0 19 rfl) rfl (lv_at hl 1 rfl) ?_
    refine lv_bipush (v := 64) X.x X.b (dk DX8_becomeOneKind_0 20 rfl) (by decide) ?_
    refine lv_imul X.x X.b (dk DX8_becomeOneKind_0 21 rfl) ?_
    refine lv_iload_n X.x X.b (dk DX8_becomeOneKind_0 22 rfl) rfl (lv_at hl 2 rfl) ?_
    obtain ⟨x25, e26, hF⟩ := bd hF
    refine mr_cl0 hH ⟨rfl, rfl⟩ (mr_runS (As := [.int a1]) (rest := [.int (a0 * 64), .ref (q 8)]) X hH (c_X10_first e26) kM_X8_136 kT_X10_first kN_X10 kC_X10_first hd_X10_first ⟨Nat.le_of_ble_eq_true rfl, Nat.le_of_ble_eq_true rfl⟩ rfl hl.1 (Nat.le_of_ble_eq_true rfl) (dk DX8_becomeOneKind_0 23 rfl) ⟨Nat.zero_le _, Nat.zero_le _⟩) (fun r h1 H locs hp hH => ?_)
    obtain ⟨hr1, hr2⟩ := hp; rw [hr1]; rw [hr2] at hH; clear hr1 hr2
    refine og_last X hq hH 8 (by decide) rfl (inb_in c22) (dk DX8_becomeOneKind_0 24 rfl) (fun H locs hH => ?_)
    obtain ⟨t28, e29⟩ : ∃ y, y = oB t23 8 (vp_updL (t23.2.2.2 8) (a0 * 64 : Int32).toNatClampNeg x25) := ⟨_, rfl⟩
    rw [← e29] at hH
    replace hF := bnd_e hF e29
    cases sm hF
    exact mr_vret X hr hlk hH rfl (dk DX8_becomeOneKind_0 25 rfl)
-- X8_load
abbrev rm_X8_load : Room := { frames := 2, cells := 0, slots := 0, locals := 42 }
theorem hd_X8_load : mHd yX8_load 2 := ⟨by decide +kernel, by decide +kernel, by decide +kernel⟩
theorem DX8_load_0 : ∀ t ∈ ([(0, .aload_n 0, 1), (1, .aload_n 1, 1), (2, .getfield 66, 3), (5, .bipush 16, 2), (7, .invokestatic 77, 3), (10, .putfield 83, 3), (13, .aload_n 0, 1), (14, .aload_n 1, 1), (15, .getfield 70, 3), (18, .putfield 84, 3), (21, .iconst 0, 1), (22, .istore_n 3, 1), (23, .iload_n 3, 1), (24, .bipush 64, 2), (26, .if_icmp .ge 31, 3), (29, .aload_n 0, 1), (30, .getfield 13, 3), (33, .iload_n 3, 1), (34, .aload_n 1, 1), (35, .iload_n 3, 1), (36, .invokevirtual 85, 3), (39, .lastore, 1), (40, .aload_n 0, 1), (41, .getfield 17, 3), (44, .iload_n 3, 1), (45, .aload_n 2, 1), (46, .iload_n 3, 1), (47, .invokevirtual 85, 3), (50, .lastore, 1), (51, .iinc 3 1, 3), (54, .goto (-31), 3), (57, .iconst 0, 1), (58, .istore_n 3, 1), (59, .iload_n 3, 1), (60, .bipush 16, 2), (62, .if_icmp .ge 31, 3), (65, .aload_n 0, 1), (66, .getfield 20, 3), (69, .iload_n 3, 1), (70, .aload_n 1, 1), (71, .iload_n 3, 1), (72, .invokevirtual 89, 3), (75, .lastore, 1), (76, .aload_n 0, 1), (77, .getfield 23, 3), (80, .iload_n 3, 1), (81, .aload_n 2, 1), (82, .iload_n 3, 1), (83, .invokevirtual 89, 3), (86, .lastore, 1), (87, .iinc 3 1, 3), (90, .goto (-31), 3), (93, .aload_n 0, 1), (94, .iconst 0, 1), (95, .aload_n 0, 1), (96, .getfield 83, 3), (99, .invokevirtual 92, 3), (102, .return_, 1)] : List (Nat × Instr × Nat)), decode cX8_load t.1 = .ok (t.2.1, t.2.2) := by decide +kernel
noncomputable def f_X8_load_23 (s_o1 : OS) (s_o2 : OS) : (OS × Int32) → Option ((OS × Int32) ⊕ (OS)) := fun z => match z with | (s_t, b3) => (if 64 ≤ b3 then some (.inr s_t) else (f_X10_setAt s_o1 b3).bind (fun x9 => if inb b3 64 = true then bnd (oB s_t 2 (vp_updL (s_t.2.2.2 2) (b3 : Int32).toNatClampNeg x9)) (fun t13 => (f_X10_setAt s_o2 b3).bind (fun x15 => bnd (oB t13 3 (vp_updL (t13.2.2.2 3) (b3 : Int32).toNatClampNeg x15)) (fun t18 => bnd (b3 + 1 : Int32) (fun v20 => some (.inl ((t18, v20))))))) else none))
noncomputable def f_X8_load_59 (s_o1 : OS) (s_o2 : OS) : (OS × Int32) → Option ((OS × Int32) ⊕ (OS)) := fun z => match z with | (s_t, b3) => (if 16 ≤ b3 then some (.inr s_t) else (f_X10_throughAt s_o1 b3).bind (fun x26 => if inb b3 16 = true then bnd (oB s_t 4 (vp_updL (s_t.2.2.2 4) (b3 : Int32).toNatClampNeg x26)) (fun t30 => (f_X10_throughAt s_o2 b3).bind (fun x32 => bnd (oB t30 5 (vp_updL (t30.2.2.2 5) (b3 : Int32).toNatClampNeg x32)) (fun t35 => bnd (b3 + 1 : Int32) (fun v37 => some (.inl ((t35, v37))))))) else none))
noncomputable def f_X8_load (st : OS) (st1 : OS) (st2 : OS) : Option (OS) := (f_J9_min_7cf53 (st1.1 0) 16).bind (fun x1 => bnd (oI st 0 x1) (fun t4 => bnd (oI t4 1 (st1.1 1)) (fun t6 => (lpv (f_X8_load_23 st1 st2) ((t6, 0))).bind (fun x22 => (lpv (f_X8_load_59 st1 st2) ((x22, 0))).bind (fun x39 => (f_X8_becomeOneKind x39 0 (x39.1 0)).bind (fun x42 => some x42))))))
set_option maxHeartbeats 4000000 in
set_option maxRecDepth 100000 in
theorem w_X8_load_23 {p : Program} {l : Launch} {e : Env} {s : State} {m : MethodId} {args : Array Value} {below : List Frame} {meth : Method} {c : Code} {Q : State → Prop} {G : mG} {h : mM} {q : Nat → Nat} {q1 : Nat → Nat} {q2 : Nat → Nat} (hq : oinj LX8 q) (hq1 : oinj LX10 q1) (hq2 : oinj LX10 q2) (ha : oap [(LX8, q), (LX10, q1), (LX10, q2)]) (X : mX G p m c cX8_load 4 s args RX8) (s_o1 : OS) (s_o2 : OS) : ∀ (z : OS × Int32) (r : OS), lpv (f_X8_load_23 s_o1 s_o2) z = some r → ∀ (H : Heap) (locs : List Loc) (ls : Array Slot), mH G (oset LX8 G q z.1 (oset LX10 G q1 s_o1 (oset LX10 G q2 s_o2 h))) s.heap H locs → lv_has ls 4 [(0, .ref (q 15)), (1, .ref (q1 5)), (2, .ref (q2 5)), (3, .int z.2)] → (∀ (H : Heap) (locs : List Loc) (ls : Array Slot), mH G (oset LX8 G q r (oset LX10 G q1 s_o1 (oset LX10 G q2 s_o2 h))) s.heap H locs → lv_has ls 4 [(0, .ref (q 15)), (1, .ref (q1 5)), (2, .ref (q2 5))] → W p l e rm_X8_load s m args below meth c H locs 0 0 Q (F0 m 57 ls [])) → W p l e rm_X8_load s m args below meth c H locs 0 0 Q (F0 m 23 ls []) := by
  refine lpv_rec ?_
  intro z r x hF hx H locs ls hH hl K0
  obtain ⟨s_t, b3⟩ := z
  dsimp only [f_X8_load_23] at hF
  try dsimp only at hH hl
  refine lv_iload_n X.x X.b (dk DX8_load_0 12 rfl) rfl (lv_at hl 3 rfl) ?_
  refine lv_bipush (v := 64) X.x X.b (dk DX8_load_0 13 rfl) (by decide) ?_
  refine lv_icmp_ge (tgt := 57) X.x X.b (dk DX8_load_0 14 rfl) (by decide) (fun c8 => ?_) (fun c8 => ?_)
  · replace hF := if_t hF c8
    have hr9 := lp_r hF hx
    subst hr9
    exact K0 _ _ _ hH (lv_sub hl [0, 1, 2] rfl)
  · replace hF := if_f hF c8
    refine lv_aload_n X.x X.b (dk DX8_load_0 15 rfl) rfl (lv_at hl 0 rfl) ?_
    refine og_getR (t := 1) OX8 X hq hH 2 (by decide) rfl kF_X8_13 (dk DX8_load_0 16 rfl) ?_
    refine lv_iload_n X.x X.b (dk DX8_load_0 17 rfl) rfl (lv_at hl 3 rfl) ?_
    refine lv_aload_n X.x X.b (dk DX8_load_0 18 rfl) rfl (lv_at hl 1 rfl) ?_
    refine lv_iload_n X.x X.b (dk DX8_load_0 19 rfl) rfl (lv_at hl 3 rfl) ?_
    obtain ⟨x9, e10, hF⟩ := bd hF
    refine mr_cl0 (mH_perm (l1 := [(LX8, q, s_t), (LX10, q1, s_o1), (LX10, q2, s_o2)]) (l2 := [(LX10, q1, s_o1), (LX8, q, s_t), (LX10, q2, s_o2)]) ha [1, 0, 2] [1, 0, 2] rfl rfl rfl hH) ⟨rfl, rfl⟩ (mr_runV (As := [.int b3]) (rest := [.int b3, .ref (q 2)]) X (mH_perm (l1 := [(LX8, q, s_t), (LX10, q1, s_o1), (LX10, q2, s_o2)]) (l2 := [(LX10, q1, s_o1), (LX8, q, s_t), (LX10, q2, s_o2)]) ha [1, 0, 2] [1, 0, 2] rfl rfl rfl hH) (c_X10_setAt hq1 e10) ((oset_at hq1 (Nat.le_refl _) ohas_N).trans (congrArg some ocell_N)) OX10.1 kM_X8_85 kI_X10_setAt kS_X10_setAt kN_X10 kC_X10_setAt hd_X10_setAt ⟨Nat.le_of_ble_eq_true rfl, Nat.le_of_ble_eq_true rfl⟩ rfl hl.1 (Nat.le_of_ble_eq_true rfl) (dk DX8_load_0 20 rfl) ⟨Nat.zero_le _, Nat.zero_le _⟩) (fun r h1 H locs hp hH => ?_)
    obtain ⟨hr1, hr2⟩ := hp; rw [hr1]; rw [hr2] at hH; clear hr1 hr2
    replace hH : mH G (oset LX8 G q s_t (oset LX10 G q1 s_o1 (oset LX10 G q2 s_o2 h))) s.heap H locs := mH_unperm (l1 := [(LX8, q, s_t), (LX10, q1, s_o1), (LX10, q2, s_o2)]) (l2 := [(LX10, q1, s_o1), (LX8, q, s_t), (LX10, q2, s_o2)]) ha [1, 0, 2] [1, 0, 2] rfl rfl rfl hH
    obtain ⟨c12, hF⟩ := gd hF
    refine og_last X hq hH 2 (by decide) rfl (inb_in c12) (dk DX8_load_0 21 rfl) (fun H locs hH => ?_)
    obtain ⟨t13, e14⟩ : ∃ y, y = oB s_t 2 (vp_updL (s_t.2.2.2 2) (b3 : Int32).toNatClampNeg x9) := ⟨_, rfl⟩
    rw [← e14] at hH
    replace hF := bnd_e hF e14
    refine lv_aload_n X.x X.b (dk DX8_load_0 22 rfl) rfl (lv_at hl 0 rfl) ?_
    refine og_getR (t := 1) OX8 X hq hH 3 (by decide) rfl kF_X8_17 (dk DX8_load_0 23 rfl) ?_
    refine lv_iload_n X.x X.b (dk DX8_load_0 24 rfl) rfl (lv_at hl 3 rfl) ?_
    refine lv_aload_n X.x X.b (dk DX8_load_0 25 rfl) rfl (lv_at hl 2 rfl) ?_
    refine lv_iload_n X.x X.b (dk DX8_load_0 26 rfl) rfl (lv_at hl 3 rfl) ?_
    obtain ⟨x15, e16, hF⟩ := bd hF
    refine mr_cl0 (mH_perm (l1 := [(LX8, q, t13), (LX10, q1, s_o1), (LX10, q2, s_o2)]) (l2 := [(LX10, q2, s_o2), (LX8, q, t13), (LX10, q1, s_o1)]) ha [2, 0, 1] [1, 2, 0] rfl rfl rfl hH) ⟨rfl, rfl⟩ (mr_runV (As := [.int b3]) (rest := [.int b3, .ref (q 3)]) X (mH_perm (l1 := [(LX8, q, t13), (LX10, q1, s_o1), (LX10, q2, s_o2)]) (l2 := [(LX10, q2, s_o2), (LX8, q, t13), (LX10, q1, s_o1)]) ha [2, 0, 1] [1, 2, 0] rfl rfl rfl hH) (c_X10_setAt hq2 e16) ((oset_at hq2 (Nat.le_refl _) ohas_N).trans (congrArg some ocell_N)) OX10.1 kM_X8_85 kI_X10_setAt kS_X10_setAt kN_X10 kC_X10_setAt hd_X10_setAt ⟨Nat.le_of_ble_eq_true rfl, Nat.le_of_ble_eq_true rfl⟩ rfl hl.1 (Nat.le_of_ble_eq_true rfl) (dk DX8_load_0 27 rfl) ⟨Nat.zero_le _, Nat.zero_le _⟩) (fun r h1 H locs hp hH => ?_)
    obtain ⟨hr1, hr2⟩ := hp; rw [hr1]; rw [hr2] at hH; clear hr1 hr2
    replace hH : mH G (oset LX8 G q t13 (oset LX10 G q1 s_o1 (oset LX10 G q2 s_o2 h))) s.heap H locs := mH_unperm (l1 := [(LX8, q, t13), (LX10, q1, s_o1), (LX10, q2, s_o2)]) (l2 := [(LX10, q2, s_o2), (LX8, q, t13), (LX10, q1, s_o1)]) ha [2, 0, 1] [1, 2, 0] rfl rfl rfl hH
    refine og_last X hq hH 3 (by decide) rfl (inb_in c12) (dk DX8_load_0 28 rfl) (fun H locs hH => ?_)
    obtain ⟨t18, e19⟩ : ∃ y, y = oB t13 3 (vp_updL (t13.2.2.2 3) (b3 : Int32).toNatClampNeg x15) := ⟨_, rfl⟩
    rw [← e19] at hH
    replace hF := bnd_e hF e19
    obtain ⟨v20, e21⟩ : ∃ y : Int32, y = b3 + 1 := ⟨_, rfl⟩
    replace hF := bnd_e hF e21
    refine lv_iinc (v := v20) (lv' := [(3, .int v20), (0, .ref (q 15)), (1, .ref (q1 5)), (2, .ref (q2 5))]) X.x X.b (dk DX8_load_0 29 rfl) hl (k := 3) rfl (by rw [e21]; rfl) (by decide) rfl (fun ls hl => ?_)
    replace hl : lv_has ls 4 [(0, .ref (q 15)), (1, .ref (q1 5)), (2, .ref (q2 5)), (3, .int v20)] := lv_sub hl [1, 2, 3, 0] rfl
    refine lv_goto (tgt := 23) X.x X.b (dk DX8_load_0 30 rfl) (by decide) ?_
    exact (lp_l hF hx) _ _ _ hH (lv_sub hl [0, 1, 2, 3] rfl) K0
set_option maxHeartbeats 4000000 in
set_option maxRecDepth 100000 in
theorem w_X8_load_59 {p : Program} {l : Launch} {e : Env} {s : State} {m : MethodId} {args : Array Value} {below : List Frame} {meth : Method} {c : Code} {Q : State → Prop} {G : mG} {h : mM} {q : Nat → Nat} {q1 : Nat → Nat} {q2 : Nat → Nat} (hq : oinj LX8 q) (hq1 : oinj LX10 q1) (hq2 : oinj LX10 q2) (ha : oap [(LX8, q), (LX10, q1), (LX10, q2)]) (X : mX G p m c cX8_load 4 s args RX8) (s_o1 : OS) (s_o2 : OS) : ∀ (z : OS × Int32) (r : OS), lpv (f_X8_load_59 s_o1 s_o2) z = some r → ∀ (H : Heap) (locs : List Loc) (ls : Array Slot), mH G (oset LX8 G q z.1 (oset LX10 G q1 s_o1 (oset LX10 G q2 s_o2 h))) s.heap H locs → lv_has ls 4 [(0, .ref (q 15)), (1, .ref (q1 5)), (2, .ref (q2 5)), (3, .int z.2)] → (∀ (H : Heap) (locs : List Loc) (ls : Array Slot), mH G (oset LX8 G q r (oset LX10 G q1 s_o1 (oset LX10 G q2 s_o2 h))) s.heap H locs → lv_has ls 4 [(0, .ref (q 15))] → W p l e rm_X8_load s m args below meth c H locs 0 0 Q (F0 m 93 ls [])) → W p l e rm_X8_load s m args below meth c H locs 0 0 Q (F0 m 59 ls []) := by
  refine lpv_rec ?_
  intro z r x hF hx H locs ls hH hl K0
  obtain ⟨s_t, b3⟩ := z
  dsimp only [f_X8_load_59] at hF
  try dsimp only at hH hl
  refine lv_iload_n X.x X.b (dk DX8_load_0 33 rfl) rfl (lv_at hl 3 rfl) ?_
  refine lv_bipush (v := 16) X.x X.b (dk DX8_load_0 34 rfl) (by decide) ?_
  refine lv_icmp_ge (tgt := 93) X.x X.b (dk DX8_load_0 35 rfl) (by decide) (fun c25 => ?_) (fun c25 => ?_)
  · replace hF := if_t hF c25
    have hr9 := lp_r hF hx
    subst hr9
    exact K0 _ _ _ hH (lv_sub hl [0] rfl)
  · replace hF := if_f hF c25
    refine lv_aload_n X.x X.b (dk DX8_load_0 36 rfl) rfl (lv_at hl 0 rfl) ?_
    refine og_getR (t := 1) OX8 X hq hH 4 (by decide) rfl kF_X8_20 (dk DX8_load_0 37 rfl) ?_
    refine lv_iload_n X.x X.b (dk DX8_load_0 38 rfl) rfl (lv_at hl 3 rfl) ?_
    refine lv_aload_n X.x X.b (dk DX8_load_0 39 rfl) rfl (lv_at hl 1 rfl) ?_
    refine lv_iload_n X.x X.b (dk DX8_load_0 40 rfl) rfl (lv_at hl 3 rfl) ?_
    obtain ⟨x26, e27, hF⟩ := bd hF
    refine mr_cl0 (mH_perm (l1 := [(LX8, q, s_t), (LX10, q1, s_o1), (LX10, q2, s_o2)]) (l2 := [(LX10, q1, s_o1), (LX8, q, s_t), (LX10, q2, s_o2)]) ha [1, 0, 2] [1, 0, 2] rfl rfl rfl hH) ⟨rfl, rfl⟩ (mr_runV (As := [.int b3]) (rest := [.int b3, .ref (q 4)]) X (mH_perm (l1 := [(LX8, q, s_t), (LX10, q1, s_o1), (LX10, q2, s_o2)]) (l2 := [(LX10, q1, s_o1), (LX8, q, s_t), (LX10, q2, s_o2)]) ha [1, 0, 2] [1, 0, 2] rfl rfl rfl hH) (c_X10_throughAt hq1 e27) ((oset_at hq1 (Nat.le_refl _) ohas_N).trans (congrArg some ocell_N)) OX10.1 kM_X8_89 kI_X10_throughAt kS_X10_throughAt kN_X10 kC_X10_throughAt hd_X10_throughAt ⟨Nat.le_of_ble_eq_true rfl, Nat.le_of_ble_eq_true rfl⟩ rfl hl.1 (Nat.le_of_ble_eq_true rfl) (dk DX8_load_0 41 rfl) ⟨Nat.zero_le _, Nat.zero_le _⟩) (fun r h1 H locs hp hH => ?_)
    obtain ⟨hr1, hr2⟩ := hp; rw [hr1]; rw [hr2] at hH; clear hr1 hr2
    replace hH : mH G (oset LX8 G q s_t (oset LX10 G q1 s_o1 (oset LX10 G q2 s_o2 h))) s.heap H locs := mH_unperm (l1 := [(LX8, q, s_t), (LX10, q1, s_o1), (LX10, q2, s_o2)]) (l2 := [(LX10, q1, s_o1), (LX8, q, s_t), (LX10, q2, s_o2)]) ha [1, 0, 2] [1, 0, 2] rfl rfl rfl hH
    obtain ⟨c29, hF⟩ := gd hF
    refine og_last X hq hH 4 (by decide) rfl (inb_in c29) (dk DX8_load_0 42 rfl) (fun H locs hH => ?_)
    obtain ⟨t30, e31⟩ : ∃ y, y = oB s_t 4 (vp_updL (s_t.2.2.2 4) (b3 : Int32).toNatClampNeg x26) := ⟨_, rfl⟩
    rw [← e31] at hH
    replace hF := bnd_e hF e31
    refine lv_aload_n X.x X.b (dk DX8_load_0 43 rfl) rfl (lv_at hl 0 rfl) ?_
    refine og_getR (t := 1) OX8 X hq hH 5 (by decide) rfl kF_X8_23 (dk DX8_load_0 44 rfl) ?_
    refine lv_iload_n X.x X.b (dk DX8_load_0 45 rfl) rfl (lv_at hl 3 rfl) ?_
    refine lv_aload_n X.x X.b (dk DX8_load_0 46 rfl) rfl (lv_at hl 2 rfl) ?_
    refine lv_iload_n X.x X.b (dk DX8_load_0 47 rfl) rfl (lv_at hl 3 rfl) ?_
    obtain ⟨x32, e33, hF⟩ := bd hF
    refine mr_cl0 (mH_perm (l1 := [(LX8, q, t30), (LX10, q1, s_o1), (LX10, q2, s_o2)]) (l2 := [(LX10, q2, s_o2), (LX8, q, t30), (LX10, q1, s_o1)]) ha [2, 0, 1] [1, 2, 0] rfl rfl rfl hH) ⟨rfl, rfl⟩ (mr_runV (As := [.int b3]) (rest := [.int b3, .ref (q 5)]) X (mH_perm (l1 := [(LX8, q, t30), (LX10, q1, s_o1), (LX10, q2, s_o2)]) (l2 := [(LX10, q2, s_o2), (LX8, q, t30), (LX10, q1, s_o1)]) ha [2, 0, 1] [1, 2, 0] rfl rfl rfl hH) (c_X10_throughAt hq2 e33) ((oset_at hq2 (Nat.le_refl _) ohas_N).trans (congrArg some ocell_N)) OX10.1 kM_X8_89 kI_X10_throughAt kS_X10_throughAt kN_X10 kC_X10_throughAt hd_X10_throughAt ⟨Nat.le_of_ble_eq_true rfl, Nat.le_of_ble_eq_true rfl⟩ rfl hl.1 (Nat.le_of_ble_eq_true rfl) (dk DX8_load_0 48 rfl) ⟨Nat.zero_le _, Nat.zero_le _⟩) (fun r h1 H locs hp hH => ?_)
    obtain ⟨hr1, hr2⟩ := hp; rw [hr1]; rw [hr2] at hH; clear hr1 hr2
    replace hH : mH G (oset LX8 G q t30 (oset LX10 G q1 s_o1 (oset LX10 G q2 s_o2 h))) s.heap H locs := mH_unperm (l1 := [(LX8, q, t30), (LX10, q1, s_o1), (LX10, q2, s_o2)]) (l2 := [(LX10, q2, s_o2), (LX8, q, t30), (LX10, q1, s_o1)]) ha [2, 0, 1] [1, 2, 0] rfl rfl rfl hH
    refine og_last X hq hH 5 (by decide) rfl (inb_in c29) (dk DX8_load_0 49 rfl) (fun H locs hH => ?_)
    obtain ⟨t35, e36⟩ : ∃ y, y = oB t30 5 (vp_updL (t30.2.2.2 5) (b3 : Int32).toNatClampNeg x32) := ⟨_, rfl⟩
    rw [← e36] at hH
    replace hF := bnd_e hF e36
    obtain ⟨v37, e38⟩ : ∃ y : Int32, y = b3 + 1 := ⟨_, rfl⟩
    replace hF := bnd_e hF e38
    refine lv_iinc (v := v37) (lv' := [(3, .int v37), (0, .ref (q 15)), (1, .ref (q1 5)), (2, .ref (q2 5))]) X.x X.b (dk DX8_load_0 50 rfl) hl (k := 3) rfl (by rw [e38]; rfl) (by decide) rfl (fun ls hl => ?_)
    replace hl : lv_has ls 4 [(0, .ref (q 15)), (1, .ref (q1 5)), (2, .ref (q2 5)), (3, .int v37)] := lv_sub hl [1, 2, 3, 0] rfl
    refine lv_goto (tgt := 59) X.x X.b (dk DX8_load_0 51 rfl) (by decide) ?_
    exact (lp_l hF hx) _ _ _ hH (lv_sub hl [0, 1, 2, 3] rfl) K0
set_option maxHeartbeats 4000000 in
set_option maxRecDepth 100000 in
theorem c_X8_load {l : Launch} {G : mG} {h : mM} {q : Nat → Nat} {q1 : Nat → Nat} {q2 : Nat → Nat} (hq : oinj LX8 q) (hq1 : oinj LX10 q1) (hq2 : oinj LX10 q2) (ha : oap [(LX8, q), (LX10, q1), (LX10, q2)]) {st : OS} {st1 : OS} {st2 : OS} {x : OS} (hF : f_X8_load st st1 st2 = some x) : cQ l G yX8_load cX8_load 4 none rm_X8_load [.ref (q 15), .ref (q1 5), .ref (q2 5)] (oset LX8 G q st (oset LX10 G q1 st1 (oset LX10 G q2 st2 h))) (mQv G (fun h1 => h1 = oset LX8 G q x (oset LX10 G q1 st1 (oset LX10 G q2 st2 h)))) := by
  refine mp_of (by decide +kernel) (Nat.le_of_ble_eq_true rfl) ?_
  intro p e s m below meth c X hr hlk hH hname ls hl
  dsimp only [f_X8_load] at hF
  replace hl : lv_has ls 4 [(0, .ref (q 15)), (1, .ref (q1 5)), (2, .ref (q2 5))] := hl
  refine lv_aload_n X.x X.b (dk DX8_load_0 0 rfl) rfl (lv_at hl 0 rfl) ?_
  refine lv_aload_n X.x X.b (dk DX8_load_0 1 rfl) rfl (lv_at hl 1 rfl) ?_
  refine og_getIN OX10 X hq1 (mH_perm (l1 := [(LX8, q, st), (LX10, q1, st1), (LX10, q2, st2)]) (l2 := [(LX10, q1, st1), (LX8, q, st), (LX10, q2, st2)]) ha [1, 0, 2] [1, 0, 2] rfl rfl rfl hH) 0 (by decide) rfl kFN_X8_66 (dk DX8_load_0 2 rfl) ?_
  refine lv_bipush (v := 16) X.x X.b (dk DX8_load_0 3 rfl) (by decide) ?_
  obtain ⟨x1, e2, hF⟩ := bd hF
  refine mr_ci0 hH ⟨rfl, rfl⟩ (mr_runS (As := [.int (st1.1 0), .int 16]) (rest := [.ref (q 15)]) X hH (c_J9_min_7cf53 e2) kM_X8_77 kT_J9_min_7cf53 kN_J9 kC_J9_min_7cf53 hd_J9_min_7cf53 ⟨Nat.le_of_ble_eq_true rfl, Nat.le_of_ble_eq_true rfl⟩ rfl hl.1 (Nat.le_of_ble_eq_true rfl) (dk DX8_load_0 4 rfl) ⟨Nat.zero_le _, Nat.zero_le _⟩) (fun r h1 H locs hp hH => ?_)
  obtain ⟨hr1, hr2⟩ := hp; rw [hr1]; rw [hr2] at hH; clear hr1 hr2
  refine og_putI OX8 X hq hH 0 (by decide) rfl kF_X8_83 rfl rfl rfl (dk DX8_load_0 5 rfl) (fun H locs hH => ?_)
  obtain ⟨t4, e5⟩ : ∃ y, y = oI st 0 x1 := ⟨_, rfl⟩
  rw [← e5] at hH
  replace hF := bnd_e hF e5
  refine lv_aload_n X.x X.b (dk DX8_load_0 6 rfl) rfl (lv_at hl 0 rfl) ?_
  refine lv_aload_n X.x X.b (dk DX8_load_0 7 rfl) rfl (lv_at hl 1 rfl) ?_
  refine og_getIN OX10 X hq1 (mH_perm (l1 := [(LX8, q, t4), (LX10, q1, st1), (LX10, q2, st2)]) (l2 := [(LX10, q1, st1), (LX8, q, t4), (LX10, q2, st2)]) ha [1, 0, 2] [1, 0, 2] rfl rfl rfl hH) 1 (by decide) rfl kFN_X8_70 (dk DX8_load_0 8 rfl) ?_
  refine og_putI OX8 X hq hH 1 (by decide) rfl kF_X8_84 rfl rfl rfl (dk DX8_load_0 9 rfl) (fun H locs hH => ?_)
  obtain ⟨t6, e7⟩ : ∃ y, y = oI t4 1 (st1.1 1) := ⟨_, rfl⟩
  rw [← e7] at hH
  replace hF := bnd_e hF e7
  refine lv_iconst (v := 0) X.x X.b (dk DX8_load_0 10 rfl) (by decide) ?_
  refine lv_istore_n (lv' := [(3, .int 0), (0, .ref (q 15)), (1, .ref (q1 5)), (2, .ref (q2 5))]) X.x X.b (dk DX8_load_0 11 rfl) rfl hl (by decide) rfl (fun ls hl => ?_)
  replace hl : lv_has ls 4 [(0, .ref (q 15)), (1, .ref (q1 5)), (2, .ref (q2 5)), (3, .int 0)] := lv_sub hl [1, 2, 3, 0] rfl
  obtain ⟨x22, e23, hF⟩ := bd hF
  replace hl : lv_has ls 4 [(0, .ref (q 15)), (1, .ref (q1 5)), (2, .ref (q2 5)), (3, .int 0)] := lv_sub hl [0, 1, 2, 3] rfl
  refine w_X8_load_23 hq hq1 hq2 ha X st1 st2 _ _ e23 _ _ _ hH hl (fun H locs ls hH hl => ?_)
  refine lv_iconst (v := 0) X.x X.b (dk DX8_load_0 31 rfl) (by decide) ?_
  refine lv_istore_n (lv' := [(3, .int 0), (0, .ref (q 15)), (1, .ref (q1 5)), (2, .ref (q2 5))]) X.x X.b (dk DX8_load_0 32 rfl) rfl hl (by decide) rfl (fun ls hl => ?_)
  replace hl : lv_has ls 4 [(0, .ref (q 15)), (1, .ref (q1 5)), (2, .ref (q2 5)), (3, .int 0)] := lv_sub hl [1, 2, 3, 0] rfl
  obtain ⟨x39, e40, hF⟩ := bd hF
  replace hl : lv_has ls 4 [(0, .ref (q 15)), (1, .ref (q1 5)), (2, .ref (q2 5)), (3, .int 0)] := lv_sub hl [0, 1, 2, 3] rfl
  refine w_X8_load_59 hq hq1 hq2 ha X st1 st2 _ _ e40 _ _ _ hH hl (fun H locs ls hH hl => ?_)
  refine lv_aload_n X.x X.b (dk DX8_load_0 52 rfl) rfl (lv_at hl 0 rfl) ?_
  refine lv_iconst (v := 0) X.x X.b (dk DX8_load_0 53 rfl) (by decide) ?_
  refine lv_aload_n X.x X.b (dk DX8_load_0 54 rfl) rfl (lv_at hl 0 rfl) ?_
  refine og_getI OX8 X hq hH 0 (by decide) rfl kF_X8_83 (dk DX8_load_0 55 rfl) ?_
  obtain ⟨x42, e43, hF⟩ := bd hF
  refine mr_cv0 hH ⟨rfl, rfl⟩ (mr_runV (As := [.int 0, .int (x39.1 0)]) (rest := []) X hH (c_X8_becomeOneKind hq e43) ((oset_at hq (Nat.le_refl _) ohas_N).trans (congrArg some ocell_N)) OX8.1 kM_X8_92 kI_X8_becomeOneKind kS_X8_becomeOneKind kN_X8 kC_X8_becomeOneKind hd_X8_becomeOneKind ⟨Nat.le_of_ble_eq_true rfl, Nat.le_of_ble_eq_true rfl⟩ rfl hl.1 (Nat.le_of_ble_eq_true rfl) (dk DX8_load_0 56 rfl) ⟨Nat.zero_le _, Nat.zero_le _⟩) (fun h1 H locs hp hH => ?_)
  rw [hp] at hH; clear hp
  cases sm hF
  exact mr_vret X hr hlk hH rfl (dk DX8_load_0 57 rfl)
abbrev rm_X8_load_same : Room := { frames := 2, cells := 0, slots := 0, locals := 42 }
noncomputable def f_X8_load_same_23 (s_o1 : OS) : (OS × Int32) → Option ((OS × Int32) ⊕ (OS)) := fun z => match z with | (s_t, b3) => (if 64 ≤ b3 then some (.inr s_t) else (f_X10_setAt s_o1 b3).bind (fun x9 => if inb b3 64 = true then bnd (oB s_t 2 (vp_updL (s_t.2.2.2 2) (b3 : Int32).toNatClampNeg x9)) (fun t13 => (f_X10_setAt s_o1 b3).bind (fun x15 => bnd (oB t13 3 (vp_updL (t13.2.2.2 3) (b3 : Int32).toNatClampNeg x15)) (fun t18 => bnd (b3 + 1 : Int32) (fun v20 => some (.inl ((t18, v20))))))) else none))
noncomputable def f_X8_load_same_59 (s_o1 : OS) : (OS × Int32) → Option ((OS × Int32) ⊕ (OS)) := fun z => match z with | (s_t, b3) => (if 16 ≤ b3 then some (.inr s_t) else (f_X10_throughAt s_o1 b3).bind (fun x26 => if inb b3 16 = true then bnd (oB s_t 4 (vp_updL (s_t.2.2.2 4) (b3 : Int32).toNatClampNeg x26)) (fun t30 => (f_X10_throughAt s_o1 b3).bind (fun x32 => bnd (oB t30 5 (vp_updL (t30.2.2.2 5) (b3 : Int32).toNatClampNeg x32)) (fun t35 => bnd (b3 + 1 : Int32) (fun v37 => some (.inl ((t35, v37))))))) else none))
noncomputable def f_X8_load_same (st : OS) (st1 : OS) : Option (OS) := (f_J9_min_7cf53 (st1.1 0) 16).bind (fun x1 => bnd (oI st 0 x1) (fun t4 => bnd (oI t4 1 (st1.1 1)) (fun t6 => (lpv (f_X8_load_same_23 st1) ((t6, 0))).bind (fun x22 => (lpv (f_X8_load_same_59 st1) ((x22, 0))).bind (fun x39 => (f_X8_becomeOneKind x39 0 (x39.1 0)).bind (fun x42 => some x42))))))
set_option maxHeartbeats 4000000 in
set_option maxRecDepth 100000 in
theorem w_X8_load_same_23 {p : Program} {l : Launch} {e : Env} {s : State} {m : MethodId} {args : Array Value} {below : List Frame} {meth : Method} {c : Code} {Q : State → Prop} {G : mG} {h : mM} {q : Nat → Nat} {q1 : Nat → Nat} (hq : oinj LX8 q) (hq1 : oinj LX10 q1) (ha : oap [(LX8, q), (LX10, q1)]) (X : mX G p m c cX8_load 4 s args RX8) (s_o1 : OS) : ∀ (z : OS × Int32) (r : OS), lpv (f_X8_load_same_23 s_o1) z = some r → ∀ (H : Heap) (locs : List Loc) (ls : Array Slot), mH G (oset LX8 G q z.1 (oset LX10 G q1 s_o1 h)) s.heap H locs → lv_has ls 4 [(0, .ref (q 15)), (1, .ref (q1 5)), (2, .ref (q1 5)), (3, .int z.2)] → (∀ (H : Heap) (locs : List Loc) (ls : Array Slot), mH G (oset LX8 G q r (oset LX10 G q1 s_o1 h)) s.heap H locs → lv_has ls 4 [(0, .ref (q 15)), (1, .ref (q1 5)), (2, .ref (q1 5))] → W p l e rm_X8_load_same s m args below meth c H locs 0 0 Q (F0 m 57 ls [])) → W p l e rm_X8_load_same s m args below meth c H locs 0 0 Q (F0 m 23 ls []) := by
  refine lpv_rec ?_
  intro z r x hF hx H locs ls hH hl K0
  obtain ⟨s_t, b3⟩ := z
  dsimp only [f_X8_load_same_23] at hF
  try dsimp only at hH hl
  refine lv_iload_n X.x X.b (dk DX8_load_0 12 rfl) rfl (lv_at hl 3 rfl) ?_
  refine lv_bipush (v := 64) X.x X.b (dk DX8_load_0 13 rfl) (by decide) ?_
  refine lv_icmp_ge (tgt := 57) X.x X.b (dk DX8_load_0 14 rfl) (by decide) (fun c8 => ?_) (fun c8 => ?_)
  · replace hF := if_t hF c8
    have hr9 := lp_r hF hx
    subst hr9
    exact K0 _ _ _ hH (lv_sub hl [0, 1, 2] rfl)
  · replace hF := if_f hF c8
    refine lv_aload_n X.x X.b (dk DX8_load_0 15 rfl) rfl (lv_at hl 0 rfl) ?_
    refine og_getR (t := 1) OX8 X hq hH 2 (by decide) rfl kF_X8_13 (dk DX8_load_0 16 rfl) ?_
    refine lv_iload_n X.x X.b (dk DX8_load_0 17 rfl) rfl (lv_at hl 3 rfl) ?_
    refine lv_aload_n X.x X.b (dk DX8_load_0 18 rfl) rfl (lv_at hl 1 rfl) ?_
    refine lv_iload_n X.x X.b (dk DX8_load_0 19 rfl) rfl (lv_at hl 3 rfl) ?_
    obtain ⟨x9, e10, hF⟩ := bd hF
    refine mr_cl0 (mH_perm (l1 := [(LX8, q, s_t), (LX10, q1, s_o1)]) (l2 := [(LX10, q1, s_o1), (LX8, q, s_t)]) ha [1, 0] [1, 0] rfl rfl rfl hH) ⟨rfl, rfl⟩ (mr_runV (As := [.int b3]) (rest := [.int b3, .ref (q 2)]) X (mH_perm (l1 := [(LX8, q, s_t), (LX10, q1, s_o1)]) (l2 := [(LX10, q1, s_o1), (LX8, q, s_t)]) ha [1, 0] [1, 0] rfl rfl rfl hH) (c_X10_setAt hq1 e10) ((oset_at hq1 (Nat.le_refl _) ohas_N).trans (congrArg some ocell_N)) OX10.1 kM_X8_85 kI_X10_setAt kS_X10_setAt kN_X10 kC_X10_setAt hd_X10_setAt ⟨Nat.le_of_ble_eq_true rfl, Nat.le_of_ble_eq_true rfl⟩ rfl hl.1 (Nat.le_of_ble_eq_true rfl) (dk DX8_load_0 20 rfl) ⟨Nat.zero_le _, Nat.zero_le _⟩) (fun r h1 H locs hp hH => ?_)
    obtain ⟨hr1, hr2⟩ := hp; rw [hr1]; rw [hr2] at hH; clear hr1 hr2
    replace hH : mH G (oset LX8 G q s_t (oset LX10 G q1 s_o1 h)) s.heap H locs := mH_unperm (l1 := [(LX8, q, s_t), (LX10, q1, s_o1)]) (l2 := [(LX10, q1, s_o1), (LX8, q, s_t)]) ha [1, 0] [1, 0] rfl rfl rfl hH
    obtain ⟨c12, hF⟩ := gd hF
    refine og_last X hq hH 2 (by decide) rfl (inb_in c12) (dk DX8_load_0 21 rfl) (fun H locs hH => ?_)
    obtain ⟨t13, e14⟩ : ∃ y, y = oB s_t 2 (vp_updL (s_t.2.2.2 2) (b3 : Int32).toNatClampNeg x9) := ⟨_, rfl⟩
    rw [← e14] at hH
    replace hF := bnd_e hF e14
    refine lv_aload_n X.x X.b (dk DX8_load_0 22 rfl) rfl (lv_at hl 0 rfl) ?_
    refine og_getR (t := 1) OX8 X hq hH 3 (by decide) rfl kF_X8_17 (dk DX8_load_0 23 rfl) ?_
    refine lv_iload_n X.x X.b (dk DX8_load_0 24 rfl) rfl (lv_at hl 3 rfl) ?_
    refine lv_aload_n X.x X.b (dk DX8_load_0 25 rfl) rfl (lv_at hl 2 rfl) ?_
    refine lv_iload_n X.x X.b (dk DX8_load_0 26 rfl) rfl (lv_at hl 3 rfl) ?_
    obtain ⟨x15, e16, hF⟩ := bd hF
    refine mr_cl0 (mH_perm (l1 := [(LX8, q, t13), (LX10, q1, s_o1)]) (l2 := [(LX10, q1, s_o1), (LX8, q, t13)]) ha [1, 0] [1, 0] rfl rfl rfl hH) ⟨rfl, rfl⟩ (mr_runV (As := [.int b3]) (rest := [.int b3, .ref (q 3)]) X (mH_perm (l1 := [(LX8, q, t13), (LX10, q1, s_o1)]) (l2 := [(LX10, q1, s_o1), (LX8, q, t13)]) ha [1, 0] [1, 0] rfl rfl rfl hH) (c_X10_setAt hq1 e16) ((oset_at hq1 (Nat.le_refl _) ohas_N).trans (congrArg some ocell_N)) OX10.1 kM_X8_85 kI_X10_setAt kS_X10_setAt kN_X10 kC_X10_setAt hd_X10_setAt ⟨Nat.le_of_ble_eq_true rfl, Nat.le_of_ble_eq_true rfl⟩ rfl hl.1 (Nat.le_of_ble_eq_true rfl) (dk DX8_load_0 27 rfl) ⟨Nat.zero_le _, Nat.zero_le _⟩) (fun r h1 H locs hp hH => ?_)
    obtain ⟨hr1, hr2⟩ := hp; rw [hr1]; rw [hr2] at hH; clear hr1 hr2
    replace hH : mH G (oset LX8 G q t13 (oset LX10 G q1 s_o1 h)) s.heap H locs := mH_unperm (l1 := [(LX8, q, t13), (LX10, q1, s_o1)]) (l2 := [(LX10, q1, s_o1), (LX8, q, t13)]) ha [1, 0] [1, 0] rfl rfl rfl hH
    refine og_last X hq hH 3 (by decide) rfl (inb_in c12) (dk DX8_load_0 28 rfl) (fun H locs hH => ?_)
    obtain ⟨t18, e19⟩ : ∃ y, y = oB t13 3 (vp_updL (t13.2.2.2 3) (b3 : Int32).toNatClampNeg x15) := ⟨_, rfl⟩
    rw [← e19] at hH
    replace hF := bnd_e hF e19
    obtain ⟨v20, e21⟩ : ∃ y : Int32, y = b3 + 1 := ⟨_, rfl⟩
    replace hF := bnd_e hF e21
    refine lv_iinc (v := v20) (lv' := [(3, .int v20), (0, .ref (q 15)), (1, .ref (q1 5)), (2, .ref (q1 5))]) X.x X.b (dk DX8_load_0 29 rfl) hl (k := 3) rfl (by rw [e21]; rfl) (by decide) rfl (fun ls hl => ?_)
    replace hl : lv_has ls 4 [(0, .ref (q 15)), (1, .ref (q1 5)), (2, .ref (q1 5)), (3, .int v20)] := lv_sub hl [1, 2, 3, 0] rfl
    refine lv_goto (tgt := 23) X.x X.b (dk DX8_load_0 30 rfl) (by decide) ?_
    exact (lp_l hF hx) _ _ _ hH (lv_sub hl [0, 1, 2, 3] rfl) K0
set_option maxHeartbeats 4000000 in
set_option maxRecDepth 100000 in
theorem w_X8_load_same_59 {p : Program} {l : Launch} {e : Env} {s : State} {m : MethodId} {args : Array Value} {below : List Frame} {meth : Method} {c : Code} {Q : State → Prop} {G : mG} {h : mM} {q : Nat → Nat} {q1 : Nat → Nat} (hq : oinj LX8 q) (hq1 : oinj LX10 q1) (ha : oap [(LX8, q), (LX10, q1)]) (X : mX G p m c cX8_load 4 s args RX8) (s_o1 : OS) : ∀ (z : OS × Int32) (r : OS), lpv (f_X8_load_same_59 s_o1) z = some r → ∀ (H : Heap) (locs : List Loc) (ls : Array Slot), mH G (oset LX8 G q z.1 (oset LX10 G q1 s_o1 h)) s.heap H locs → lv_has ls 4 [(0, .ref (q 15)), (1, .ref (q1 5)), (2, .ref (q1 5)), (3, .int z.2)] → (∀ (H : Heap) (locs : List Loc) (ls : Array Slot), mH G (oset LX8 G q r (oset LX10 G q1 s_o1 h)) s.heap H locs → lv_has ls 4 [(0, .ref (q 15))] → W p l e rm_X8_load_same s m args below meth c H locs 0 0 Q (F0 m 93 ls [])) → W p l e rm_X8_load_same s m args below meth c H locs 0 0 Q (F0 m 59 ls []) := by
  refine lpv_rec ?_
  intro z r x hF hx H locs ls hH hl K0
  obtain ⟨s_t, b3⟩ := z
  dsimp only [f_X8_load_same_59] at hF
  try dsimp only at hH hl
  refine lv_iload_n X.x X.b (dk DX8_load_0 33 rfl) rfl (lv_at hl 3 rfl) ?_
  refine lv_bipush (v := 16) X.x X.b (dk DX8_load_0 34 rfl) (by decide) ?_
  refine lv_icmp_ge (tgt := 93) X.x X.b (dk DX8_load_0 35 rfl) (by decide) (fun c25 => ?_) (fun c25 => ?_)
  · replace hF := if_t hF c25
    have hr9 := lp_r hF hx
    subst hr9
    exact K0 _ _ _ hH (lv_sub hl [0] rfl)
  · replace hF := if_f hF c25
    refine lv_aload_n X.x X.b (dk DX8_load_0 36 rfl) rfl (lv_at hl 0 rfl) ?_
    refine og_getR (t := 1) OX8 X hq hH 4 (by decide) rfl kF_X8_20 (dk DX8_load_0 37 rfl) ?_
    refine lv_iload_n X.x X.b (dk DX8_load_0 38 rfl) rfl (lv_at hl 3 rfl) ?_
    refine lv_aload_n X.x X.b (dk DX8_load_0 39 rfl) rfl (lv_at hl 1 rfl) ?_
    refine lv_iload_n X.x X.b (dk DX8_load_0 40 rfl) rfl (lv_at hl 3 rfl) ?_
    obtain ⟨x26, e27, hF⟩ := bd hF
    refine mr_cl0 (mH_perm (l1 := [(LX8, q, s_t), (LX10, q1, s_o1)]) (l2 := [(LX10, q1, s_o1), (LX8, q, s_t)]) ha [1, 0] [1, 0] rfl rfl rfl hH) ⟨rfl, rfl⟩ (mr_runV (As := [.int b3]) (rest := [.int b3, .ref (q 4)]) X (mH_perm (l1 := [(LX8, q, s_t), (LX10, q1, s_o1)]) (l2 := [(LX10, q1, s_o1), (LX8, q, s_t)]) ha [1, 0] [1, 0] rfl rfl rfl hH) (c_X10_throughAt hq1 e27) ((oset_at hq1 (Nat.le_refl _) ohas_N).trans (congrArg some ocell_N)) OX10.1 kM_X8_89 kI_X10_throughAt kS_X10_throughAt kN_X10 kC_X10_throughAt hd_X10_throughAt ⟨Nat.le_of_ble_eq_true rfl, Nat.le_of_ble_eq_true rfl⟩ rfl hl.1 (Nat.le_of_ble_eq_true rfl) (dk DX8_load_0 41 rfl) ⟨Nat.zero_le _, Nat.zero_le _⟩) (fun r h1 H locs hp hH => ?_)
    obtain ⟨hr1, hr2⟩ := hp; rw [hr1]; rw [hr2] at hH; clear hr1 hr2
    replace hH : mH G (oset LX8 G q s_t (oset LX10 G q1 s_o1 h)) s.heap H locs := mH_unperm (l1 := [(LX8, q, s_t), (LX10, q1, s_o1)]) (l2 := [(LX10, q1, s_o1), (LX8, q, s_t)]) ha [1, 0] [1, 0] rfl rfl rfl hH
    obtain ⟨c29, hF⟩ := gd hF
    refine og_last X hq hH 4 (by decide) rfl (inb_in c29) (dk DX8_load_0 42 rfl) (fun H locs hH => ?_)
    obtain ⟨t30, e31⟩ : ∃ y, y = oB s_t 4 (vp_updL (s_t.2.2.2 4) (b3 : Int32).toNatClampNeg x26) := ⟨_, rfl⟩
    rw [← e31] at hH
    replace hF := bnd_e hF e31
    refine lv_aload_n X.x X.b (dk DX8_load_0 43 rfl) rfl (lv_at hl 0 rfl) ?_
    refine og_getR (t := 1) OX8 X hq hH 5 (by decide) rfl kF_X8_23 (dk DX8_load_0 44 rfl) ?_
    refine lv_iload_n X.x X.b (dk DX8_load_0 45 rfl) rfl (lv_at hl 3 rfl) ?_
    refine lv_aload_n X.x X.b (dk DX8_load_0 46 rfl) rfl (lv_at hl 2 rfl) ?_
    refine lv_iload_n X.x X.b (dk DX8_load_0 47 rfl) rfl (lv_at hl 3 rfl) ?_
    obtain ⟨x32, e33, hF⟩ := bd hF
    refine mr_cl0 (mH_perm (l1 := [(LX8, q, t30), (LX10, q1, s_o1)]) (l2 := [(LX10, q1, s_o1), (LX8, q, t30)]) ha [1, 0] [1, 0] rfl rfl rfl hH) ⟨rfl, rfl⟩ (mr_runV (As := [.int b3]) (rest := [.int b3, .ref (q 5)]) X (mH_perm (l1 := [(LX8, q, t30), (LX10, q1, s_o1)]) (l2 := [(LX10, q1, s_o1), (LX8, q, t30)]) ha [1, 0] [1, 0] rfl rfl rfl hH) (c_X10_throughAt hq1 e33) ((oset_at hq1 (Nat.le_refl _) ohas_N).trans (congrArg some ocell_N)) OX10.1 kM_X8_89 kI_X10_throughAt kS_X10_throughAt kN_X10 kC_X10_throughAt hd_X10_throughAt ⟨Nat.le_of_ble_eq_true rfl, Nat.le_of_ble_eq_true rfl⟩ rfl hl.1 (Nat.le_of_ble_eq_true rfl) (dk DX8_load_0 48 rfl) ⟨Nat.zero_le _, Nat.zero_le _⟩) (fun r h1 H locs hp hH => ?_)
    obtain ⟨hr1, hr2⟩ := hp; rw [hr1]; rw [hr2] at hH; clear hr1 hr2
    replace hH : mH G (oset LX8 G q t30 (oset LX10 G q1 s_o1 h)) s.heap H locs := mH_unperm (l1 := [(LX8, q, t30), (LX10, q1, s_o1)]) (l2 := [(LX10, q1, s_o1), (LX8, q, t30)]) ha [1, 0] [1, 0] rfl rfl rfl hH
    refine og_last X hq hH 5 (by decide) rfl (inb_in c29) (dk DX8_load_0 49 rfl) (fun H locs hH => ?_)
    obtain ⟨t35, e36⟩ : ∃ y, y = oB t30 5 (vp_updL (t30.2.2.2 5) (b3 : Int32).toNatClampNeg x32) := ⟨_, rfl⟩
    rw [← e36] at hH
    replace hF := bnd_e hF e36
    obtain ⟨v37, e38⟩ : ∃ y : Int32, y = b3 + 1 := ⟨_, rfl⟩
    replace hF := bnd_e hF e38
    refine lv_iinc (v := v37) (lv' := [(3, .int v37), (0, .ref (q 15)), (1, .ref (q1 5)), (2, .ref (q1 5))]) X.x X.b (dk DX8_load_0 50 rfl) hl (k := 3) rfl (by rw [e38]; rfl) (by decide) rfl (fun ls hl => ?_)
    replace hl : lv_has ls 4 [(0, .ref (q 15)), (1, .ref (q1 5)), (2, .ref (q1 5)), (3, .int v37)] := lv_sub hl [1, 2, 3, 0] rfl
    refine lv_goto (tgt := 59) X.x X.b (dk DX8_load_0 51 rfl) (by decide) ?_
    exact (lp_l hF hx) _ _ _ hH (lv_sub hl [0, 1, 2, 3] rfl) K0
set_option maxHeartbeats 4000000 in
set_option maxRecDepth 100000 in
theorem c_X8_load_same {l : Launch} {G : mG} {h : mM} {q : Nat → Nat} {q1 : Nat → Nat} (hq : oinj LX8 q) (hq1 : oinj LX10 q1) (ha : oap [(LX8, q), (LX10, q1)]) {st : OS} {st1 : OS} {x : OS} (hF : f_X8_load_same st st1 = some x) : cQ l G yX8_load cX8_load 4 none rm_X8_load_same [.ref (q 15), .ref (q1 5), .ref (q1 5)] (oset LX8 G q st (oset LX10 G q1 st1 h)) (mQv G (fun h1 => h1 = oset LX8 G q x (oset LX10 G q1 st1 h))) := by
  refine mp_of (by decide +kernel) (Nat.le_of_ble_eq_true rfl) ?_
  intro p e s m below meth c X hr hlk hH hname ls hl
  dsimp only [f_X8_load_same] at hF
  replace hl : lv_has ls 4 [(0, .ref (q 15)), (1, .ref (q1 5)), (2, .ref (q1 5))] := hl
  refine lv_aload_n X.x X.b (dk DX8_load_0 0 rfl) rfl (lv_at hl 0 rfl) ?_
  refine lv_aload_n X.x X.b (dk DX8_load_0 1 rfl) rfl (lv_at hl 1 rfl) ?_
  refine og_getIN OX10 X hq1 (mH_perm (l1 := [(LX8, q, st), (LX10, q1, st1)]) (l2 := [(LX10, q1, st1), (LX8, q, st)]) ha [1, 0] [1, 0] rfl rfl rfl hH) 0 (by decide) rfl kFN_X8_66 (dk DX8_load_0 2 rfl) ?_
  refine lv_bipush (v := 16) X.x X.b (dk DX8_load_0 3 rfl) (by decide) ?_
  obtain ⟨x1, e2, hF⟩ := bd hF
  refine mr_ci0 hH ⟨rfl, rfl⟩ (mr_runS (As := [.int (st1.1 0), .int 16]) (rest := [.ref (q 15)]) X hH (c_J9_min_7cf53 e2) kM_X8_77 kT_J9_min_7cf53 kN_J9 kC_J9_min_7cf53 hd_J9_min_7cf53 ⟨Nat.le_of_ble_eq_true rfl, Nat.le_of_ble_eq_true rfl⟩ rfl hl.1 (Nat.le_of_ble_eq_true rfl) (dk DX8_load_0 4 rfl) ⟨Nat.zero_le _, Nat.zero_le _⟩) (fun r h1 H locs hp hH => ?_)
  obtain ⟨hr1, hr2⟩ := hp; rw [hr1]; rw [hr2] at hH; clear hr1 hr2
  refine og_putI OX8 X hq hH 0 (by decide) rfl kF_X8_83 rfl rfl rfl (dk DX8_load_0 5 rfl) (fun H locs hH => ?_)
  obtain ⟨t4, e5⟩ : ∃ y, y = oI st 0 x1 := ⟨_, rfl⟩
  rw [← e5] at hH
  replace hF := bnd_e hF e5
  refine lv_aload_n X.x X.b (dk DX8_load_0 6 rfl) rfl (lv_at hl 0 rfl) ?_
  refine lv_aload_n X.x X.b (dk DX8_load_0 7 rfl) rfl (lv_at hl 1 rfl) ?_
  refine og_getIN OX10 X hq1 (mH_perm (l1 := [(LX8, q, t4), (LX10, q1, st1)]) (l2 := [(LX10, q1, st1), (LX8, q, t4)]) ha [1, 0] [1, 0] rfl rfl rfl hH) 1 (by decide) rfl kFN_X8_70 (dk DX8_load_0 8 rfl) ?_
  refine og_putI OX8 X hq hH 1 (by decide) rfl kF_X8_84 rfl rfl rfl (dk DX8_load_0 9 rfl) (fun H locs hH => ?_)
  obtain ⟨t6, e7⟩ : ∃ y, y = oI t4 1 (st1.1 1) := ⟨_, rfl⟩
  rw [← e7] at hH
  replace hF := bnd_e hF e7
  refine lv_iconst (v := 0) X.x X.b (dk DX8_load_0 10 rfl) (by decide) ?_
  refine lv_istore_n (lv' := [(3, .int 0), (0, .ref (q 15)), (1, .ref (q1 5)), (2, .ref (q1 5))]) X.x X.b (dk DX8_load_0 11 rfl) rfl hl (by decide) rfl (fun ls hl => ?_)
  replace hl : lv_has ls 4 [(0, .ref (q 15)), (1, .ref (q1 5)), (2, .ref (q1 5)), (3, .int 0)] := lv_sub hl [1, 2, 3, 0] rfl
  obtain ⟨x22, e23, hF⟩ := bd hF
  replace hl : lv_has ls 4 [(0, .ref (q 15)), (1, .ref (q1 5)), (2, .ref (q1 5)), (3, .int 0)] := lv_sub hl [0, 1, 2, 3] rfl
  refine w_X8_load_same_23 hq hq1 ha X st1 _ _ e23 _ _ _ hH hl (fun H locs ls hH hl => ?_)
  refine lv_iconst (v := 0) X.x X.b (dk DX8_load_0 31 rfl) (by decide) ?_
  refine lv_istore_n (lv' := [(3, .int 0), (0, .ref (q 15)), (1, .ref (q1 5)), (2, .ref (q1 5))]) X.x X.b (dk DX8_load_0 32 rfl) rfl hl (by decide) rfl (fun ls hl => ?_)
  replace hl : lv_has ls 4 [(0, .ref (q 15)), (1, .ref (q1 5)), (2, .ref (q1 5)), (3, .int 0)] := lv_sub hl [1, 2, 3, 0] rfl
  obtain ⟨x39, e40, hF⟩ := bd hF
  replace hl : lv_has ls 4 [(0, .ref (q 15)), (1, .ref (q1 5)), (2, .ref (q1 5)), (3, .int 0)] := lv_sub hl [0, 1, 2, 3] rfl
  refine w_X8_load_same_59 hq hq1 ha X st1 _ _ e40 _ _ _ hH hl (fun H locs ls hH hl => ?_)
  refine lv_aload_n X.x X.b (dk DX8_load_0 52 rfl) rfl (lv_at hl 0 rfl) ?_
  refine lv_iconst (v := 0) X.x X.b (dk DX8_load_0 53 rfl) (by decide) ?_
  refine lv_aload_n X.x X.b (dk DX8_load_0 54 rfl) rfl (lv_at hl 0 rfl) ?_
  refine og_getI OX8 X hq hH 0 (by decide) rfl kF_X8_83 (dk DX8_load_0 55 rfl) ?_
  obtain ⟨x42, e43, hF⟩ := bd hF
  refine mr_cv0 hH ⟨rfl, rfl⟩ (mr_runV (As := [.int 0, .int (x39.1 0)]) (rest := []) X hH (c_X8_becomeOneKind hq e43) ((oset_at hq (Nat.le_refl _) ohas_N).trans (congrArg some ocell_N)) OX8.1 kM_X8_92 kI_X8_becomeOneKind kS_X8_becomeOneKind kN_X8 kC_X8_becomeOneKind hd_X8_becomeOneKind ⟨Nat.le_of_ble_eq_true rfl, Nat.le_of_ble_eq_true rfl⟩ rfl hl.1 (Nat.le_of_ble_eq_true rfl) (dk DX8_load_0 56 rfl) ⟨Nat.zero_le _, Nat.zero_le _⟩) (fun h1 H locs hp hH => ?_)
  rw [hp] at hH; clear hp
  cases sm hF
  exact mr_vret X hr hlk hH rfl (dk DX8_load_0 57 rfl)
-- X8_markOf
abbrev rm_X8_markOf : Room := { frames := 1, cells := 0, slots := 0, locals := 21 }
theorem hd_X8_markOf : mHd yX8_markOf 3 := ⟨by decide +kernel, by decide +kernel, by decide +kernel⟩
theorem DX8_markOf_0 : ∀ t ∈ ([(0, .lconst 0, 1), (1, .lstore 5, 2), (3, .iconst 0, 1), (4, .istore 7, 2), (6, .iconst 0, 1), (7, .istore 8, 2), (9, .iload 8, 2), (11, .aload_n 0, 1), (12, .getfield 26, 3), (15, .iload_n 1, 1), (16, .iaload, 1), (17, .if_icmp .ge 55, 3), (20, .iload 8, 2), (22, .bipush 64, 2), (24, .if_icmp .ge 48, 3), (27, .aload_n 2, 1), (28, .iload_n 1, 1), (29, .bipush 64, 2), (31, .imul, 1), (32, .iload 8, 2), (34, .iadd, 1), (35, .laload, 1), (36, .lstore 9, 2), (38, .lload 5, 2), (40, .lload 9, 2), (42, .lload_n 3, 1), (43, .land, 1), (44, .invokestatic 123, 3), (47, .invokestatic 136, 3), (50, .iload 7, 2), (52, .lshl, 1), (53, .lor, 1), (54, .lstore 5, 2), (56, .iload 7, 2), (58, .lload 9, 2), (60, .invokestatic 123, 3), (63, .iadd, 1), (64, .istore 7, 2), (66, .iinc 8 1, 3), (69, .goto (-60), 3), (72, .lload 5, 2), (74, .lreturn, 1)] : List (Nat × Instr × Nat)), decode cX8_markOf t.1 = .ok (t.2.1, t.2.2) := by decide +kernel
noncomputable def f_X8_markOf_9 (s_t : OS) (a1 : Nat) (na1 : Nat) (b1 : Int32) (b3 : Int64) : (Int64 × Int32 × Int32) → Option ((Int64 × Int32 × Int32) ⊕ (Int64)) := fun z => match z with | (b5, b7, b8) => if inb b1 17 = true then (if (s_t.2.2.1 6 (b1 : Int32).toNatClampNeg) ≤ b8 then some (.inr b5) else (if 64 ≤ b8 then some (.inr b5) else if inb ((b1 * 64) + b8) na1 = true then bnd (s_t.2.2.2 a1 ((b1 * 64) + b8 : Int32).toNatClampNeg : Int64) (fun v5 => (f_J13_bitCount_95d88 (v5 &&& b3)).bind (fun x7 => (f_X10_first x7).bind (fun x10 => bnd (b5 ||| (((x10 : Int64)) <<< ((b7 : Int32).toInt64 &&& 63)) : Int64) (fun v13 => (f_J13_bitCount_95d88 v5).bind (fun x15 => bnd (b7 + x15 : Int32) (fun v18 => bnd (b8 + 1 : Int32) (fun v20 => some (.inl ((v13, v18, v20)))))))))) else none)) else none
noncomputable def f_X8_markOf (st : OS) (a1 : Nat) (na1 : Nat) (a0 : Int32) (a2 : Int64) : Option (Int64) := (lpv (f_X8_markOf_9 st a1 na1 a0 a2) ((0, 0, 0))).bind (fun x22 => some x22)
set_option maxHeartbeats 4000000 in
set_option maxRecDepth 100000 in
theorem w_X8_markOf_9 {p : Program} {l : Launch} {e : Env} {s : State} {m : MethodId} {args : Array Value} {below : List Frame} {meth : Method} {c : Code} {Q : State → Prop} {G : mG} {h : mM} {q : Nat → Nat} {a1 : Nat} {na1 : Nat} (hq : oinj LX8 q) (hka1 : a1 < 15) (hsa1 : LX8.2.2 a1 = (3, na1)) (X : mX G p m c cX8_markOf 11 s args RX8) (s_t : OS) (b1 : Int32) (b3 : Int64) : ∀ (z : Int64 × Int32 × Int32) (r : Int64), lpv (f_X8_markOf_9 s_t a1 na1 b1 b3) z = some r → ∀ (H : Heap) (locs : List Loc) (ls : Array Slot), mH G (oset LX8 G q s_t h) s.heap H locs → lv_has ls 11 [(0, .ref (q 15)), (1, .int b1), (2, .ref (q a1)), (3, .long b3), (5, .long z.1), (7, .int z.2.1), (8, .int z.2.2)] → (∀ (H : Heap) (locs : List Loc) (ls : Array Slot), mH G (oset LX8 G q s_t h) s.heap H locs → lv_has ls 11 [(5, .long r)] → W p l e rm_X8_markOf s m args below meth c H locs 0 0 Q (F0 m 72 ls [])) → W p l e rm_X8_markOf s m args below meth c H locs 0 0 Q (F0 m 9 ls []) := by
  refine lpv_rec ?_
  intro z r x hF hx H locs ls hH hl K0
  obtain ⟨b5, b7, b8⟩ := z
  dsimp only [f_X8_markOf_9] at hF
  try dsimp only at hH hl
  refine lv_iload X.x X.b (dk DX8_markOf_0 6 rfl) (lv_at hl 6 rfl) ?_
  refine lv_aload_n X.x X.b (dk DX8_markOf_0 7 rfl) rfl (lv_at hl 0 rfl) ?_
  refine og_getR (t := 0) OX8 X hq hH 6 (by decide) rfl kF_X8_26 (dk DX8_markOf_0 8 rfl) ?_
  refine lv_iload_n X.x X.b (dk DX8_markOf_0 9 rfl) rfl (lv_at hl 1 rfl) ?_
  obtain ⟨c1, hF⟩ := gd hF
  refine og_iald X hq hH 6 (by decide) rfl (inb_in c1) (dk DX8_markOf_0 10 rfl) ?_
  refine lv_icmp_ge (tgt := 72) X.x X.b (dk DX8_markOf_0 11 rfl) (by decide) (fun c2 => ?_) (fun c2 => ?_)
  · replace hF := if_t hF c2
    have hr9 := lp_r hF hx
    subst hr9
    exact K0 _ _ _ hH (lv_sub hl [4] rfl)
  · replace hF := if_f hF c2
    refine lv_iload X.x X.b (dk DX8_markOf_0 12 rfl) (lv_at hl 6 rfl) ?_
    refine lv_bipush (v := 64) X.x X.b (dk DX8_markOf_0 13 rfl) (by decide) ?_
    refine lv_icmp_ge (tgt := 72) X.x X.b (dk DX8_markOf_0 14 rfl) (by decide) (fun c3 => ?_) (fun c3 => ?_)
    · replace hF := if_t hF c3
      have hr9 := lp_r hF hx
      subst hr9
      exact K0 _ _ _ hH (lv_sub hl [4] rfl)
    · replace hF := if_f hF c3
      refine lv_aload_n X.x X.b (dk DX8_markOf_0 15 rfl) rfl (lv_at hl 2 rfl) ?_
      refine lv_iload_n X.x X.b (dk DX8_markOf_0 16 rfl) rfl (lv_at hl 1 rfl) ?_
      refine lv_bipush (v := 64) X.x X.b (dk DX8_markOf_0 17 rfl) (by decide) ?_
      refine lv_imul X.x X.b (dk DX8_markOf_0 18 rfl) ?_
      refine lv_iload X.x X.b (dk DX8_markOf_0 19 rfl) (lv_at hl 6 rfl) ?_
      refine lv_iadd X.x X.b (dk DX8_markOf_0 20 rfl) ?_
      obtain ⟨c4, hF⟩ := gd hF
      refine og_lald X hq hH a1 hka1 hsa1 (inb_in c4) (dk DX8_markOf_0 21 rfl) ?_
      refine lv_topl (fun v5 e6 => ?_)
      replace hF := bnd_e hF e6
      refine lv_lstore (lv' := [(9, .long v5), (0, .ref (q 15)), (1, .int b1), (2, .ref (q a1)), (3, .long b3), (5, .long b5), (7, .int b7), (8, .int b8)]) X.x X.b (dk DX8_markOf_0 22 rfl) hl (by decide) rfl (fun ls hl => ?_)
      replace hl : lv_has ls 11 [(0, .ref (q 15)), (1, .int b1), (2, .ref (q a1)), (3, .long b3), (5, .long b5), (7, .int b7), (8, .int b8), (9, .long v5)] := lv_sub hl [1, 2, 3, 4, 5, 6, 7, 0] rfl
      refine lv_lload X.x X.b (dk DX8_markOf_0 23 rfl) (lv_at hl 4 rfl) ?_
      refine lv_lload X.x X.b (dk DX8_markOf_0 24 rfl) (lv_at hl 7 rfl) ?_
      refine lv_lload_n X.x X.b (dk DX8_markOf_0 25 rfl) rfl (lv_at hl 3 rfl) ?_
      refine lv_land X.x X.b (dk DX8_markOf_0 26 rfl) ?_
      obtain ⟨x7, e8, hF⟩ := bd hF
      refine mr_ci0 hH ⟨rfl, rfl⟩ (mr_runS (As := [.long (v5 &&& b3)]) (rest := [.long b5]) X hH (c_J13_bitCount_95d88 e8) kM_X8_123 kT_J13_bitCount_95d88 kN_J13 kC_J13_bitCount_95d88 hd_J13_bitCount_95d88 ⟨Nat.le_of_ble_eq_true rfl, Nat.le_of_ble_eq_true rfl⟩ rfl hl.1 (Nat.le_of_ble_eq_true rfl) (dk DX8_markOf_0 27 rfl) ⟨Nat.zero_le _, Nat.zero_le _⟩) (fun r h1 H locs hp hH => ?_)
      obtain ⟨hr1, hr2⟩ := hp; rw [hr1]; rw [hr2] at hH; clear hr1 hr2
      obtain ⟨x10, e11, hF⟩ := bd hF
      refine mr_cl0 hH ⟨rfl, rfl⟩ (mr_runS (As := [.int x7]) (rest := [.long b5]) X hH (c_X10_first e11) kM_X8_136 kT_X10_first kN_X10 kC_X10_first hd_X10_first ⟨Nat.le_of_ble_eq_true rfl, Nat.le_of_ble_eq_true rfl⟩ rfl hl.1 (Nat.le_of_ble_eq_true rfl) (dk DX8_markOf_0 28 rfl) ⟨Nat.zero_le _, Nat.zero_le _⟩) (fun r h1 H locs hp hH => ?_)
      obtain ⟨hr1, hr2⟩ := hp; rw [hr1]; rw [hr2] at hH; clear hr1 hr2
      refine lv_iload X.x X.b (dk DX8_markOf_0 29 rfl) (lv_at hl 5 rfl) ?_
      refine lv_lshl X.x X.b (dk DX8_markOf_0 30 rfl) rfl ?_
      refine lv_lor X.x X.b (dk DX8_markOf_0 31 rfl) ?_
      refine lv_topl (fun v13 e14 => ?_)
      replace hF := bnd_e hF e14
      refine lv_lstore (lv' := [(5, .long v13), (0, .ref (q 15)), (1, .int b1), (2, .ref (q a1)), (3, .long b3), (7, .int b7), (8, .int b8), (9, .long v5)]) X.x X.b (dk DX8_markOf_0 32 rfl) hl (by decide) rfl (fun ls hl => ?_)
      replace hl : lv_has ls 11 [(0, .ref (q 15)), (1, .int b1), (2, .ref (q a1)), (3, .long b3), (5, .long v13), (7, .int b7), (8, .int b8), (9, .long v5)] := lv_sub hl [1, 2, 3, 4, 0, 5, 6, 7] rfl
      refine lv_iload X.x X.b (dk DX8_markOf_0 33 rfl) (lv_at hl 5 rfl) ?_
      refine lv_lload X.x X.b (dk DX8_markOf_0 34 rfl) (lv_at hl 7 rfl) ?_
      obtain ⟨x15, e16, hF⟩ := bd hF
      refine mr_ci0 hH ⟨rfl, rfl⟩ (mr_runS (As := [.long v5]) (rest := [.int b7]) X hH (c_J13_bitCount_95d88 e16) kM_X8_123 kT_J13_bitCount_95d88 kN_J13 kC_J13_bitCount_95d88 hd_J13_bitCount_95d88 ⟨Nat.le_of_ble_eq_true rfl, Nat.le_of_ble_eq_true rfl⟩ rfl hl.1 (Nat.le_of_ble_eq_true rfl) (dk DX8_markOf_0 35 rfl) ⟨Nat.zero_le _, Nat.zero_le _⟩) (fun r h1 H locs hp hH => ?_)
      obtain ⟨hr1, hr2⟩ := hp; rw [hr1]; rw [hr2] at hH; clear hr1 hr2
      refine lv_iadd X.x X.b (dk DX8_markOf_0 36 rfl) ?_
      refine lv_topi (fun v18 e19 => ?_)
      replace hF := bnd_e hF e19
      refine lv_istore (lv' := [(7, .int v18), (0, .ref (q 15)), (1, .int b1), (2, .ref (q a1)), (3, .long b3), (5, .long v13), (8, .int b8), (9, .long v5)]) X.x X.b (dk DX8_markOf_0 37 rfl) hl (by decide) rfl (fun ls hl => ?_)
      replace hl : lv_has ls 11 [(0, .ref (q 15)), (1, .int b1), (2, .ref (q a1)), (3, .long b3), (5, .long v13), (7, .int v18), (8, .int b8)] := lv_sub hl [1, 2, 3, 4, 5, 0, 6] rfl
      obtain ⟨v20, e21⟩ : ∃ y : Int32, y = b8 + 1 := ⟨_, rfl⟩
      replace hF := bnd_e hF e21
      refine lv_iinc (v := v20) (lv' := [(8, .int v20), (0, .ref (q 15)), (1, .int b1), (2, .ref (q a1)), (3, .long b3), (5, .long v13), (7, .int v18)]) X.x X.b (dk DX8_markOf_0 38 rfl) hl (k := 6) rfl (by rw [e21]; rfl) (by decide) rfl (fun ls hl => ?_)
      replace hl : lv_has ls 11 [(0, .ref (q 15)), (1, .int b1), (2, .ref (q a1)), (3, .long b3), (5, .long v13), (7, .int v18), (8, .int v20)] := lv_sub hl [1, 2, 3, 4, 5, 6, 0] rfl
      refine lv_goto (tgt := 9) X.x X.b (dk DX8_markOf_0 39 rfl) (by decide) ?_
      exact (lp_l hF hx) _ _ _ hH (lv_sub hl [0, 1, 2, 3, 4, 5, 6] rfl) K0
set_option maxHeartbeats 4000000 in
set_option maxRecDepth 100000 in
theorem c_X8_markOf {l : Launch} {G : mG} {h : mM} {q : Nat → Nat} {a1 : Nat} {na1 : Nat} (hq : oinj LX8 q) (hka1 : a1 < 15) (hsa1 : LX8.2.2 a1 = (3, na1)) {st : OS} {a0 : Int32} {a2 : Int64} {x : Int64} (hF : f_X8_markOf st a1 na1 a0 a2 = some x) : cQ l G yX8_markOf cX8_markOf 11 (some FieldType.long) rm_X8_markOf [.ref (q 15), .int a0, .ref (q a1), .long a2] (oset LX8 G q st h) (mQl G (fun r h1 => r = x ∧ h1 = oset LX8 G q st h)) := by
  refine mp_of (by decide +kernel) (Nat.le_of_ble_eq_true rfl) ?_
  intro p e s m below meth c X hr hlk hH hname ls hl
  dsimp only [f_X8_markOf] at hF
  replace hl : lv_has ls 11 [(0, .ref (q 15)), (1, .int a0), (2, .ref (q a1)), (3, .long a2)] := hl
  refine lv_lconst (v := 0) X.x X.b (dk DX8_markOf_0 0 rfl) (by decide) ?_
  refine lv_lstore (lv' := [(5, .long 0), (0, .ref (q 15)), (1, .int a0), (2, .ref (q a1)), (3, .long a2)]) X.x X.b (dk DX8_markOf_0 1 rfl) hl (by decide) rfl (fun ls hl => ?_)
  replace hl : lv_has ls 11 [(0, .ref (q 15)), (1, .int a0), (2, .ref (q a1)), (3, .long a2), (5, .long 0)] := lv_sub hl [1, 2, 3, 4, 0] rfl
  refine lv_iconst (v := 0) X.x X.b (dk DX8_markOf_0 2 rfl) (by decide) ?_
  refine lv_istore (lv' := [(7, .int 0), (0, .ref (q 15)), (1, .int a0), (2, .ref (q a1)), (3, .long a2), (5, .long 0)]) X.x X.b (dk DX8_markOf_0 3 rfl) hl (by decide) rfl (fun ls hl => ?_)
  replace hl : lv_has ls 11 [(0, .ref (q 15)), (1, .int a0), (2, .ref (q a1)), (3, .long a2), (5, .long 0), (7, .int 0)] := lv_sub hl [1, 2, 3, 4, 5, 0] rfl
  refine lv_iconst (v := 0) X.x X.b (dk DX8_markOf_0 4 rfl) (by decide) ?_
  refine lv_istore (lv' := [(8, .int 0), (0, .ref (q 15)), (1, .int a0), (2, .ref (q a1)), (3, .long a2), (5, .long 0), (7, .int 0)]) X.x X.b (dk DX8_markOf_0 5 rfl) hl (by decide) rfl (fun ls hl => ?_)
  replace hl : lv_has ls 11 [(0, .ref (q 15)), (1, .int a0), (2, .ref (q a1)), (3, .long a2), (5, .long 0), (7, .int 0), (8, .int 0)] := lv_sub hl [1, 2, 3, 4, 5, 6, 0] rfl
  obtain ⟨x22, e23, hF⟩ := bd hF
  replace hl : lv_has ls 11 [(0, .ref (q 15)), (1, .int a0), (2, .ref (q a1)), (3, .long a2), (5, .long 0), (7, .int 0), (8, .int 0)] := lv_sub hl [0, 1, 2, 3, 4, 5, 6] rfl
  refine w_X8_markOf_9 hq hka1 hsa1 X st a0 a2 _ _ e23 _ _ _ hH hl (fun H locs ls hH hl => ?_)
  refine lv_lload X.x X.b (dk DX8_markOf_0 40 rfl) (lv_at hl 0 rfl) ?_
  cases sm hF
  exact mr_lret X hr hlk hH ⟨rfl, rfl⟩ (dk DX8_markOf_0 41 rfl)
