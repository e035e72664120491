-- X12_othersOwn
abbrev rm_X12_othersOwn : Room := { frames := 0, cells := 0, slots := 0, locals := 0 }
theorem hd_X12_othersOwn : mHd yX12_othersOwn 0 := ⟨by decide +kernel, by decide +kernel, by decide +kernel⟩
theorem DX12_othersOwn_0 : ∀ t ∈ ([(0, .aload_n 0, 1), (1, .aload_n 0, 1), (2, .getfield 250, 3), (5, .putfield 365, 3), (8, .iconst 0, 1), (9, .istore_n 1, 1), (10, .iload_n 1, 1), (11, .aload_n 0, 1), (12, .getfield 250, 3), (15, .if_icmp .ge 21, 3), (18, .aload_n 0, 1), (19, .getfield 60, 3), (22, .iload_n 1, 1), (23, .aload_n 0, 1), (24, .getfield 7, 3), (27, .iload_n 1, 1), (28, .laload, 1), (29, .lastore, 1), (30, .iinc 1 1, 3), (33, .goto (-23), 3), (36, .return_, 1)] : List (Nat × Instr × Nat)), decode cX12_othersOwn t.1 = .ok (t.2.1, t.2.2) := by decide +kernel
noncomputable def f_X12_othersOwn_10 : (OS × Int32) → Option ((OS × Int32) ⊕ (OS)) := fun z => match z with | (s_t, b1) => (if (s_t.1 1) ≤ b1 then some (.inr s_t) else if inb b1 64 = true then bnd (oB s_t 34 (vp_updL (s_t.2.2.2 34) (b1 : Int32).toNatClampNeg (s_t.2.2.2 3 (b1 : Int32).toNatClampNeg))) (fun t5 => bnd (b1 + 1 : Int32) (fun v7 => some (.inl ((t5, v7))))) else none)
noncomputable def f_X12_othersOwn (st : OS) : Option (OS) := bnd (oI st 35 (st.1 1)) (fun t1 => (lpv (f_X12_othersOwn_10) ((t1, 0))).bind (fun x9 => some x9))
set_option maxHeartbeats 4000000 in
set_option maxRecDepth 100000 in
theorem w_X12_othersOwn_10 {p : Program} {l : Launch} {e : Env} {s : State} {m : MethodId} {args : Array Value} {below : List Frame} {meth : Method} {c : Code} {Q : State → Prop} {G : mG} {h : mM} {q : Nat → Nat} (hq : oinj LX12 q) (X : mX G p m c cX12_othersOwn 2 s args RX12) : ∀ (z : OS × Int32) (r : OS), lpv (f_X12_othersOwn_10) z = some r → ∀ (H : Heap) (locs : List Loc) (ls : Array Slot), mH G (oset LX12 G q z.1 h) s.heap H locs → lv_has ls 2 [(0, .ref (q 53)), (1, .int z.2)] → (∀ (H : Heap) (locs : List Loc) (ls : Array Slot), mH G (oset LX12 G q r h) s.heap H locs → lv_has ls 2 [] → W p l e rm_X12_othersOwn s m args below meth c H locs 0 0 Q (F0 m 36 ls [])) → W p l e rm_X12_othersOwn s m args below meth c H locs 0 0 Q (F0 m 10 ls []) := by
  refine lpv_rec ?_
  intro z r x hF hx H locs ls hH hl K0
  obtain ⟨s_t, b1⟩ := z
  dsimp only [f_X12_othersOwn_10] at hF
  try dsimp only at hH hl
  refine lv_iload_n X.x X.b (dk DX12_othersOwn_0 6 rfl) rfl (lv_at hl 1 rfl) ?_
  refine lv_aload_n X.x X.b (dk DX12_othersOwn_0 7 rfl) rfl (lv_at hl 0 rfl) ?_
  refine og_getI OX12 X hq hH 1 (by decide) rfl kF_X12_250 (dk DX12_othersOwn_0 8 rfl) ?_
  refine lv_icmp_ge (tgt := 36) X.x X.b (dk DX12_othersOwn_0 9 rfl) (by decide) (fun c3 => ?_) (fun c3 => ?_)
  · replace hF := if_t hF c3
    have hr9 := lp_r hF hx
    subst hr9
    exact K0 _ _ _ hH (lv_sub hl [] rfl)
  · replace hF := if_f hF c3
    refine lv_aload_n X.x X.b (dk DX12_othersOwn_0 10 rfl) rfl (lv_at hl 0 rfl) ?_
    refine og_getR (t := 1) OX12 X hq hH 34 (by decide) rfl kF_X12_60 (dk DX12_othersOwn_0 11 rfl) ?_
    refine lv_iload_n X.x X.b (dk DX12_othersOwn_0 12 rfl) rfl (lv_at hl 1 rfl) ?_
    refine lv_aload_n X.x X.b (dk DX12_othersOwn_0 13 rfl) rfl (lv_at hl 0 rfl) ?_
    refine og_getR (t := 1) OX12 X hq hH 3 (by decide) rfl kF_X12_7 (dk DX12_othersOwn_0 14 rfl) ?_
    refine lv_iload_n X.x X.b (dk DX12_othersOwn_0 15 rfl) rfl (lv_at hl 1 rfl) ?_
    obtain ⟨c4, hF⟩ := gd hF
    refine og_lald X hq hH 3 (by decide) rfl (inb_in c4) (dk DX12_othersOwn_0 16 rfl) ?_
    refine og_last X hq hH 34 (by decide) rfl (inb_in c4) (dk DX12_othersOwn_0 17 rfl) (fun H locs hH => ?_)
    obtain ⟨t5, e6⟩ : ∃ y, y = oB s_t 34 (vp_updL (s_t.2.2.2 34) (b1 : Int32).toNatClampNeg (s_t.2.2.2 3 (b1 : Int32).toNatClampNeg)) := ⟨_, rfl⟩
    rw [← e6] at hH
    replace hF := bnd_e hF e6
    obtain ⟨v7, e8⟩ : ∃ y : Int32, y = b1 + 1 := ⟨_, rfl⟩
    replace hF := bnd_e hF e8
    refine lv_iinc (v := v7) (lv' := [(1, .int v7), (0, .ref (q 53))]) X.x X.b (dk DX12_othersOwn_0 18 rfl) hl (k := 1) rfl (by rw [e8]; rfl) (by decide) rfl (fun ls hl => ?_)
    replace hl : lv_has ls 2 [(0, .ref (q 53)), (1, .int v7)] := lv_sub hl [1, 0] rfl
    refine lv_goto (tgt := 10) X.x X.b (dk DX12_othersOwn_0 19 rfl) (by decide) ?_
    exact (lp_l hF hx) _ _ _ hH (lv_sub hl [0, 1] rfl) K0
set_option maxHeartbeats 4000000 in
set_option maxRecDepth 100000 in
theorem c_X12_othersOwn {l : Launch} {G : mG} {h : mM} {q : Nat → Nat} (hq : oinj LX12 q) {st : OS} {x : OS} (hF : f_X12_othersOwn st = some x) : cQ l G yX12_othersOwn cX12_othersOwn 2 none rm_X12_othersOwn [.ref (q 53)] (oset LX12 G q st h) (mQv G (fun h1 => h1 = oset LX12 G q x h)) := by
  refine mp_of (by decide +kernel) (Nat.le_of_ble_eq_true rfl) ?_
  intro p e s m below meth c X hr hlk hH hname ls hl
  dsimp only [f_X12_othersOwn] at hF
  replace hl : lv_has ls 2 [(0, .ref (q 53))] := hl
  refine lv_aload_n X.x X.b (dk DX12_othersOwn_0 0 rfl) rfl (lv_at hl 0 rfl) ?_
  refine lv_aload_n X.x X.b (dk DX12_othersOwn_0 1 rfl) rfl (lv_at hl 0 rfl) ?_
  refine og_getI OX12 X hq hH 1 (by decide) rfl kF_X12_250 (dk DX12_othersOwn_0 2 rfl) ?_
  refine og_putI OX12 X hq hH 35 (by decide) rfl kF_X12_365 rfl rfl rfl (dk DX12_othersOwn_0 3 rfl) (fun H locs hH => ?_)
  obtain ⟨t1, e2⟩ : ∃ y, y = oI st 35 (st.1 1) := ⟨_, rfl⟩
  rw [← e2] at hH
  replace hF := bnd_e hF e2
  refine lv_iconst (v := 0) X.x X.b (dk DX12_othersOwn_0 4 rfl) (by decide) ?_
  refine lv_istore_n (lv' := [(1, .int 0), (0, .ref (q 53))]) X.x X.b (dk DX12_othersOwn_0 5 rfl) rfl hl (by decide) rfl (fun ls hl => ?_)
  replace hl : lv_has ls 2 [(0, .ref (q 53)), (1, .int 0)] := lv_sub hl [1, 0] rfl
  obtain ⟨x9, e10, hF⟩ := bd hF
  replace hl : lv_has ls 2 [(0, .ref (q 53)), (1, .int 0)] := lv_sub hl [0, 1] rfl
  refine w_X12_othersOwn_10 hq X _ _ e10 _ _ _ hH hl (fun H locs ls hH hl => ?_)
  cases sm hF
  exact mr_vret X hr hlk hH rfl (dk DX12_othersOwn_0 20 rfl)
-- X12_goneTo
abbrev rm_X12_goneTo : Room := { frames := 1, cells := 0, slots := 0, locals := 22 }
theorem hd_X12_goneTo : mHd yX12_goneTo 1 := ⟨by decide +kernel, by decide +kernel, by decide +kernel⟩
theorem DX12_goneTo_0 : ∀ t ∈ ([(0, .lconst 0, 1), (1, .lstore_n 3, 1), (2, .iconst 0, 1), (3, .istore 5, 2), (5, .iload 5, 2), (7, .aload_n 0, 1), (8, .getfield 248, 3), (11, .if_icmp .ge 42, 3), (14, .aload_n 0, 1), (15, .getfield 63, 3), (18, .iload 5, 2), (20, .iaload, 1), (21, .iconst (-1), 1), (22, .if_icmp .eq 25, 3), (25, .lload_n 1, 1), (26, .iload 5, 2), (28, .invokestatic 232, 3), (31, .ifCond .eq 16, 3), (34, .lload_n 3, 1), (35, .aload_n 0, 1), (36, .getfield 63, 3), (39, .iload 5, 2), (41, .iaload, 1), (42, .invokestatic 111, 3), (45, .lor, 1), (46, .lstore_n 3, 1), (47, .iinc 5 1, 3), (50, .goto (-45), 3), (53, .lload_n 3, 1), (54, .lreturn, 1)] : List (Nat × Instr × Nat)), decode cX12_goneTo t.1 = .ok (t.2.1, t.2.2) := by decide +kernel
noncomputable def f_X12_goneTo_5 (s_t : OS) (b1 : Int64) : (Int64 × Int32) → Option ((Int64 × Int32) ⊕ (Int64)) := fun z => match z with | (b3, b5) => (if (s_t.1 0) ≤ b5 then some (.inr b3) else if inb b5 16 = true then (if (s_t.2.2.1 36 (b5 : Int32).toNatClampNeg) = ((-1)) then bnd (b5 + 1 : Int32) (fun v4 => some (.inl ((b3, v4)))) else (f_X12_has b1 b5).bind (fun x6 => (if x6 = 0 then bnd (b5 + 1 : Int32) (fun v10 => some (.inl ((b3, v10)))) else (f_X12_bit (s_t.2.2.1 36 (b5 : Int32).toNatClampNeg)).bind (fun x12 => bnd (b3 ||| x12 : Int64) (fun v15 => bnd (b5 + 1 : Int32) (fun v17 => some (.inl ((v15, v17))))))))) else none)
noncomputable def f_X12_goneTo (st : OS) (a0 : Int64) : Option (Int64) := (lpv (f_X12_goneTo_5 st a0) ((0, 0))).bind (fun x19 => some x19)
set_option maxHeartbeats 4000000 in
set_option maxRecDepth 100000 in
theorem w_X12_goneTo_5 {p : Program} {l : Launch} {e : Env} {s : State} {m : MethodId} {args : Array Value} {below : List Frame} {meth : Method} {c : Code} {Q : State → Prop} {G : mG} {h : mM} {q : Nat → Nat} (hq : oinj LX12 q) (X : mX G p m c cX12_goneTo 6 s args RX12) (s_t : OS) (b1 : Int64) : ∀ (z : Int64 × Int32) (r : Int64), lpv (f_X12_goneTo_5 s_t b1) z = some r → ∀ (H : Heap) (locs : List Loc) (ls : Array Slot), mH G (oset LX12 G q s_t h) s.heap H locs → lv_has ls 6 [(0, .ref (q 53)), (1, .long b1), (3, .long z.1), (5, .int z.2)] → (∀ (H : Heap) (locs : List Loc) (ls : Array Slot), mH G (oset LX12 G q s_t h) s.heap H locs → lv_has ls 6 [(3, .long r)] → W p l e rm_X12_goneTo s m args below meth c H locs 0 0 Q (F0 m 53 ls [])) → W p l e rm_X12_goneTo s m args below meth c H locs 0 0 Q (F0 m 5 ls []) := by
  refine lpv_rec ?_
  intro z r x hF hx H locs ls hH hl K0
  obtain ⟨b3, b5⟩ := z
  dsimp only [f_X12_goneTo_5] at hF
  try dsimp only at hH hl
  refine lv_iload X.x X.b (dk DX12_goneTo_0 4 rfl) (lv_at hl 3 rfl) ?_
  refine lv_aload_n X.x X.b (dk DX12_goneTo_0 5 rfl) rfl (lv_at hl 0 rfl) ?_
  refine og_getI OX12 X hq hH 0 (by decide) rfl kF_X12_248 (dk DX12_goneTo_0 6 rfl) ?_
  refine lv_icmp_ge (tgt := 53) X.x X.b (dk DX12_goneTo_0 7 rfl) (by decide) (fun c1 => ?_) (fun c1 => ?_)
  · replace hF := if_t hF c1
    have hr9 := lp_r hF hx
    subst hr9
    exact K0 _ _ _ hH (lv_sub hl [2] rfl)
  · replace hF := if_f hF c1
    refine lv_aload_n X.x X.b (dk DX12_goneTo_0 8 rfl) rfl (lv_at hl 0 rfl) ?_
    refine og_getR (t := 0) OX12 X hq hH 36 (by decide) rfl kF_X12_63 (dk DX12_goneTo_0 9 rfl) ?_
    refine lv_iload X.x X.b (dk DX12_goneTo_0 10 rfl) (lv_at hl 3 rfl) ?_
    obtain ⟨c2, hF⟩ := gd hF
    refine og_iald X hq hH 36 (by decide) rfl (inb_in c2) (dk DX12_goneTo_0 11 rfl) ?_
    refine lv_iconst (v := (-1)) X.x X.b (dk DX12_goneTo_0 12 rfl) (by decide) ?_
    refine lv_icmp_eq (tgt := 47) X.x X.b (dk DX12_goneTo_0 13 rfl) (by decide) (fun c3 => ?_) (fun c3 => ?_)
    · replace hF := if_t hF c3
      obtain ⟨v4, e5⟩ : ∃ y : Int32, y = b5 + 1 := ⟨_, rfl⟩
      replace hF := bnd_e hF e5
      refine lv_iinc (v := v4) (lv' := [(5, .int v4), (0, .ref (q 53)), (1, .long b1), (3, .long b3)]) X.x X.b (dk DX12_goneTo_0 26 rfl) hl (k := 3) rfl (by rw [e5]; rfl) (by decide) rfl (fun ls hl => ?_)
      replace hl : lv_has ls 6 [(0, .ref (q 53)), (1, .long b1), (3, .long b3), (5, .int v4)] := lv_sub hl [1, 2, 3, 0] rfl
      refine lv_goto (tgt := 5) X.x X.b (dk DX12_goneTo_0 27 rfl) (by decide) ?_
      exact (lp_l hF hx) _ _ _ hH (lv_sub hl [0, 1, 2, 3] rfl) K0
    · replace hF := if_f hF c3
      refine lv_lload_n X.x X.b (dk DX12_goneTo_0 14 rfl) rfl (lv_at hl 1 rfl) ?_
      refine lv_iload X.x X.b (dk DX12_goneTo_0 15 rfl) (lv_at hl 3 rfl) ?_
      obtain ⟨x6, e7, hF⟩ := bd hF
      refine mr_ci0 hH ⟨rfl, rfl⟩ (mr_runS (As := [.long b1, .int b5]) (rest := []) X hH (c_X12_has e7) kM_X12_232 kT_X12_has kN_X12 kC_X12_has hd_X12_has ⟨Nat.le_of_ble_eq_true rfl, Nat.le_of_ble_eq_true rfl⟩ rfl hl.1 (Nat.le_of_ble_eq_true rfl) (dk DX12_goneTo_0 16 rfl) ⟨Nat.zero_le _, Nat.zero_le _⟩) (fun r h1 H locs hp hH => ?_)
      obtain ⟨hr1, hr2⟩ := hp; rw [hr1]; rw [hr2] at hH; clear hr1 hr2
      refine lv_if_eq (tgt := 47) X.x X.b (dk DX12_goneTo_0 17 rfl) (by decide) (fun c9 => ?_) (fun c9 => ?_)
      · replace hF := if_t hF c9
        obtain ⟨v10, e11⟩ : ∃ y : Int32, y = b5 + 1 := ⟨_, rfl⟩
        replace hF := bnd_e hF e11
        refine lv_iinc (v := v10) (lv' := [(5, .int v10), (0, .ref (q 53)), (1, .long b1), (3, .long b3)]) X.x X.b (dk DX12_goneTo_0 26 rfl) hl (k := 3) rfl (by rw [e11]; rfl) (by decide) rfl (fun ls hl => ?_)
        replace hl : lv_has ls 6 [(0, .ref (q 53)), (1, .long b1), (3, .long b3), (5, .int v10)] := lv_sub hl [1, 2, 3, 0] rfl
        refine lv_goto (tgt := 5) X.x X.b (dk DX12_goneTo_0 27 rfl) (by decide) ?_
        exact (lp_l hF hx) _ _ _ hH (lv_sub hl [0, 1, 2, 3] rfl) K0
      · replace hF := if_f hF c9
        refine lv_lload_n X.x X.b (dk DX12_goneTo_0 18 rfl) rfl (lv_at hl 2 rfl) ?_
        refine lv_aload_n X.x X.b (dk DX12_goneTo_0 19 rfl) rfl (lv_at hl 0 rfl) ?_
        refine og_getR (t := 0) OX12 X hq hH 36 (by decide) rfl kF_X12_63 (dk DX12_goneTo_0 20 rfl) ?_
        refine lv_iload X.x X.b (dk DX12_goneTo_0 21 rfl) (lv_at hl 3 rfl) ?_
        refine og_iald X hq hH 36 (by decide) rfl (inb_in c2) (dk DX12_goneTo_0 22 rfl) ?_
        obtain ⟨x12, e13, hF⟩ := bd hF
        refine mr_cl0 hH ⟨rfl, rfl⟩ (mr_runS (As := [.int (s_t.2.2.1 36 (b5 : Int32).toNatClampNeg)]) (rest := [.long b3]) X hH (c_X12_bit e13) kM_X12_111 kT_X12_bit kN_X12 kC_X12_bit hd_X12_bit ⟨Nat.le_of_ble_eq_true rfl, Nat.le_of_ble_eq_true rfl⟩ rfl hl.1 (Nat.le_of_ble_eq_true rfl) (dk DX12_goneTo_0 23 rfl) ⟨Nat.zero_le _, Nat.zero_le _⟩) (fun r h1 H locs hp hH => ?_)
        obtain ⟨hr1, hr2⟩ := hp; rw [hr1]; rw [hr2] at hH; clear hr1 hr2
        refine lv_lor X.x X.b (dk DX12_goneTo_0 24 rfl) ?_
        refine lv_topl (fun v15 e16 => ?_)
        replace hF := bnd_e hF e16
        refine lv_lstore_n (lv' := [(3, .long v15), (0, .ref (q 53)), (1, .long b1), (5, .int b5)]) X.x X.b (dk DX12_goneTo_0 25 rfl) rfl hl (by decide) rfl (fun ls hl => ?_)
        replace hl : lv_has ls 6 [(0, .ref (q 53)), (1, .long b1), (3, .long v15), (5, .int b5)] := lv_sub hl [1, 2, 0, 3] rfl
        obtain ⟨v17, e18⟩ : ∃ y : Int32, y = b5 + 1 := ⟨_, rfl⟩
        replace hF := bnd_e hF e18
        refine lv_iinc (v := v17) (lv' := [(5, .int v17), (0, .ref (q 53)), (1, .long b1), (3, .long v15)]) X.x X.b (dk DX12_goneTo_0 26 rfl) hl (k := 3) rfl (by rw [e18]; rfl) (by decide) rfl (fun ls hl => ?_)
        replace hl : lv_has ls 6 [(0, .ref (q 53)), (1, .long b1), (3, .long v15), (5, .int v17)] := lv_sub hl [1, 2, 3, 0] rfl
        refine lv_goto (tgt := 5) X.x X.b (dk DX12_goneTo_0 27 rfl) (by decide) ?_
        exact (lp_l hF hx) _ _ _ hH (lv_sub hl [0, 1, 2, 3] rfl) K0
set_option maxHeartbeats 4000000 in
set_option maxRecDepth 100000 in
theorem c_X12_goneTo {l : Launch} {G : mG} {h : mM} {q : Nat → Nat} (hq : oinj LX12 q) {st : OS} {a0 : Int64} {x : Int64} (hF : f_X12_goneTo st a0 = some x) : cQ l G yX12_goneTo cX12_goneTo 6 (some FieldType.long) rm_X12_goneTo [.ref (q 53), .long a0] (oset LX12 G q st h) (mQl G (fun r h1 => r = x ∧ h1 = oset LX12 G q st h)) := by
  refine mp_of (by decide +kernel) (Nat.le_of_ble_eq_true rfl) ?_
  intro p e s m below meth c X hr hlk hH hname ls hl
  dsimp only [f_X12_goneTo] at hF
  replace hl : lv_has ls 6 [(0, .ref (q 53)), (1, .long a0)] := hl
  refine lv_lconst (v := 0) X.x X.b (dk DX12_goneTo_0 0 rfl) (by decide) ?_
  refine lv_lstore_n (lv' := [(3, .long 0), (0, .ref (q 53)), (1, .long a0)]) X.x X.b (dk DX12_goneTo_0 1 rfl) rfl hl (by decide) rfl (fun ls hl => ?_)
  replace hl : lv_has ls 6 [(0, .ref (q 53)), (1, .long a0), (3, .long 0)] := lv_sub hl [1, 2, 0] rfl
  refine lv_iconst (v := 0) X.x X.b (dk DX12_goneTo_0 2 rfl) (by decide) ?_
  refine lv_istore (lv' := [(5, .int 0), (0, .ref (q 53)), (1, .long a0), (3, .long 0)]) X.x X.b (dk DX12_goneTo_0 3 rfl) hl (by decide) rfl (fun ls hl => ?_)
  replace hl : lv_has ls 6 [(0, .ref (q 53)), (1, .long a0), (3, .long 0), (5, .int 0)] := lv_sub hl [1, 2, 3, 0] rfl
  obtain ⟨x19, e20, hF⟩ := bd hF
  replace hl : lv_has ls 6 [(0, .ref (q 53)), (1, .long a0), (3, .long 0), (5, .int 0)] := lv_sub hl [0, 1, 2, 3] rfl
  refine w_X12_goneTo_5 hq X st a0 _ _ e20 _ _ _ hH hl (fun H locs ls hH hl => ?_)
  refine lv_lload_n X.x X.b (dk DX12_goneTo_0 28 rfl) rfl (lv_at hl 0 rfl) ?_
  cases sm hF
  exact mr_lret X hr hlk hH ⟨rfl, rfl⟩ (dk DX12_goneTo_0 29 rfl)
-- X12_many
abbrev rm_X12_many : Room := { frames := 0, cells := 0, slots := 0, locals := 0 }
theorem hd_X12_many : mHd yX12_many 3 := ⟨by decide +kernel, by decide +kernel, by decide +kernel⟩
theorem DX12_many_0 : ∀ t ∈ ([(0, .iconst 0, 1), (1, .istore 4, 2), (3, .iconst 0, 1), (4, .istore 5, 2), (6, .iload 5, 2), (8, .iload_n 1, 1), (9, .if_icmp .ge 28, 3), (12, .iload 4, 2), (14, .aload_n 0, 1), (15, .iload 5, 2), (17, .laload, 1), (18, .lload_n 2, 1), (19, .lcmp, 1), (20, .ifCond .ne 7, 3), (23, .iconst 1, 1), (24, .goto 4, 3), (27, .iconst 0, 1), (28, .iadd, 1), (29, .istore 4, 2), (31, .iinc 5 1, 3), (34, .goto (-28), 3), (37, .iload 4, 2), (39, .ireturn, 1)] : List (Nat × Instr × Nat)), decode cX12_many t.1 = .ok (t.2.1, t.2.2) := by decide +kernel
noncomputable def f_X12_many_6 (na0 : Nat) (fa0 : Nat → Int64) (b1 : Int32) (b2 : Int64) : (Int32 × Int32) → Option ((Int32 × Int32) ⊕ (Int32)) := fun z => match z with | (b4, b5) => (if b1 ≤ b5 then some (.inr b4) else if inb b5 na0 = true then (if (lg_cmp (fa0 (b5 : Int32).toNatClampNeg) b2) = 0 then bnd (b4 + 1 : Int32) (fun v8 => bnd (b5 + 1 : Int32) (fun v10 => some (.inl ((v8, v10))))) else bnd (b4 + 0 : Int32) (fun v4 => bnd (b5 + 1 : Int32) (fun v6 => some (.inl ((v4, v6)))))) else none)
noncomputable def f_X12_many (na0 : Nat) (fa0 : Nat → Int64) (a1 : Int32) (a2 : Int64) : Option (Int32) := (lpv (f_X12_many_6 na0 fa0 a1 a2) ((0, 0))).bind (fun x12 => some x12)
set_option maxHeartbeats 4000000 in
set_option maxRecDepth 100000 in
theorem w_X12_many_6 {p : Program} {l : Launch} {e : Env} {s : State} {m : MethodId} {args : Array Value} {below : List Frame} {meth : Method} {c : Code} {Q : State → Prop} {G : mG} {h : mM} {a0 : Nat} {na0 : Nat} {fa0 : Nat → Int64} (ha0 : h a0 = some (aJ G na0 fa0)) (X : mX G p m c cX12_many 6 s args RX12) (b1 : Int32) (b2 : Int64) : ∀ (z : Int32 × Int32) (r : Int32), lpv (f_X12_many_6 na0 fa0 b1 b2) z = some r → ∀ (H : Heap) (locs : List Loc) (ls : Array Slot), mH G (h) s.heap H locs → lv_has ls 6 [(0, .ref a0), (1, .int b1), (2, .long b2), (4, .int z.1), (5, .int z.2)] → (∀ (H : Heap) (locs : List Loc) (ls : Array Slot), mH G (h) s.heap H locs → lv_has ls 6 [(4, .int r)] → W p l e rm_X12_many s m args below meth c H locs 0 0 Q (F0 m 37 ls [])) → W p l e rm_X12_many s m args below meth c H locs 0 0 Q (F0 m 6 ls []) := by
  refine lpv_rec ?_
  intro z r x hF hx H locs ls hH hl K0
  obtain ⟨b4, b5⟩ := z
  dsimp only [f_X12_many_6] at hF
  try dsimp only at hH hl
  refine lv_iload X.x X.b (dk DX12_many_0 4 rfl) (lv_at hl 4 rfl) ?_
  refine lv_iload_n X.x X.b (dk DX12_many_0 5 rfl) rfl (lv_at hl 1 rfl) ?_
  refine lv_icmp_ge (tgt := 37) X.x X.b (dk DX12_many_0 6 rfl) (by decide) (fun c1 => ?_) (fun c1 => ?_)
  · replace hF := if_t hF c1
    have hr9 := lp_r hF hx
    subst hr9
    exact K0 _ _ _ hH (lv_sub hl [3] rfl)
  · replace hF := if_f hF c1
    refine lv_iload X.x X.b (dk DX12_many_0 7 rfl) (lv_at hl 3 rfl) ?_
    refine lv_aload_n X.x X.b (dk DX12_many_0 8 rfl) rfl (lv_at hl 0 rfl) ?_
    refine lv_iload X.x X.b (dk DX12_many_0 9 rfl) (lv_at hl 4 rfl) ?_
    obtain ⟨c2, hF⟩ := gd hF
    refine mr_lald X hH ha0 (inb_in c2) (dk DX12_many_0 10 rfl) ?_
    refine lv_lload_n X.x X.b (dk DX12_many_0 11 rfl) rfl (lv_at hl 2 rfl) ?_
    refine W.lcmp X.x X.b (dk DX12_many_0 12 rfl) ?_
    refine lv_if_ne (tgt := 27) X.x X.b (dk DX12_many_0 13 rfl) (by decide) (fun c3 => ?_) (fun c3 => ?_)
    · replace hF := if_f hF c3
      refine lv_iconst (v := 0) X.x X.b (dk DX12_many_0 16 rfl) (by decide) ?_
      refine lv_iadd X.x X.b (dk DX12_many_0 17 rfl) ?_
      refine lv_topi (fun v4 e5 => ?_)
      replace hF := bnd_e hF e5
      refine lv_istore (lv' := [(4, .int v4), (0, .ref a0), (1, .int b1), (2, .long b2), (5, .int b5)]) X.x X.b (dk DX12_many_0 18 rfl) hl (by decide) rfl (fun ls hl => ?_)
      replace hl : lv_has ls 6 [(0, .ref a0), (1, .int b1), (2, .long b2), (4, .int v4), (5, .int b5)] := lv_sub hl [1, 2, 3, 0, 4] rfl
      obtain ⟨v6, e7⟩ : ∃ y : Int32, y = b5 + 1 := ⟨_, rfl⟩
      replace hF := bnd_e hF e7
      refine lv_iinc (v := v6) (lv' := [(5, .int v6), (0, .ref a0), (1, .int b1), (2, .long b2), (4, .int v4)]) X.x X.b (dk DX12_many_0 19 rfl) hl (k := 4) rfl (by rw [e7]; rfl) (by decide) rfl (fun ls hl => ?_)
      replace hl : lv_has ls 6 [(0, .ref a0), (1, .int b1), (2, .long b2), (4, .int v4), (5, .int v6)] := lv_sub hl [1, 2, 3, 4, 0] rfl
      refine lv_goto (tgt := 6) X.x X.b (dk DX12_many_0 20 rfl) (by decide) ?_
      exact (lp_l hF hx) _ _ _ hH (lv_sub hl [0, 1, 2, 3, 4] rfl) K0
    · replace hF := if_t hF c3
      refine lv_iconst (v := 1) X.x X.b (dk DX12_many_0 14 rfl) (by decide) ?_
      refine lv_goto (tgt := 28) X.x X.b (dk DX12_many_0 15 rfl) (by decide) ?_
      refine lv_iadd X.x X.b (dk DX12_many_0 17 rfl) ?_
      refine lv_topi (fun v8 e9 => ?_)
      replace hF := bnd_e hF e9
      refine lv_istore (lv' := [(4, .int v8), (0, .ref a0), (1, .int b1), (2, .long b2), (5, .int b5)]) X.x X.b (dk DX12_many_0 18 rfl) hl (by decide) rfl (fun ls hl => ?_)
      replace hl : lv_has ls 6 [(0, .ref a0), (1, .int b1), (2, .long b2), (4, .int v8), (5, .int b5)] := lv_sub hl [1, 2, 3, 0, 4] rfl
      obtain ⟨v10, e11⟩ : ∃ y : Int32, y = b5 + 1 := ⟨_, rfl⟩
      replace hF := bnd_e hF e11
      refine lv_iinc (v := v10) (lv' := [(5, .int v10), (0, .ref a0), (1, .int b1), (2, .long b2), (4, .int v8)]) X.x X.b (dk DX12_many_0 19 rfl) hl (k := 4) rfl (by rw [e11]; rfl) (by decide) rfl (fun ls hl => ?_)
      replace hl : lv_has ls 6 [(0, .ref a0), (1, .int b1), (2, .long b2), (4, .int v8), (5, .int v10)] := lv_sub hl [1, 2, 3, 4, 0] rfl
      refine lv_goto (tgt := 6) X.x X.b (dk DX12_many_0 20 rfl) (by decide) ?_
      exact (lp_l hF hx) _ _ _ hH (lv_sub hl [0, 1, 2, 3, 4] rfl) K0
set_option maxHeartbeats 4000000 in
set_option maxRecDepth 100000 in
theorem c_X12_many {l : Launch} {G : mG} {h : mM} {a0 : Nat} {na0 : Nat} {fa0 : Nat → Int64} (ha0 : h a0 = some (aJ G na0 fa0)) {a1 : Int32} {a2 : Int64} {x : Int32} (hF : f_X12_many na0 fa0 a1 a2 = some x) : cQ l G yX12_many cX12_many 6 (some FieldType.int) rm_X12_many [.ref a0, .int a1, .long a2] (h) (mQi G (fun r h1 => r = x ∧ h1 = h)) := by
  refine mp_of (by decide +kernel) (Nat.le_of_ble_eq_true rfl) ?_
  intro p e s m below meth c X hr hlk hH hname ls hl
  dsimp only [f_X12_many] at hF
  replace hl : lv_has ls 6 [(0, .ref a0), (1, .int a1), (2, .long a2)] := hl
  refine lv_iconst (v := 0) X.x X.b (dk DX12_many_0 0 rfl) (by decide) ?_
  refine lv_istore (lv' := [(4, .int 0), (0, .ref a0), (1, .int a1), (2, .long a2)]) X.x X.b (dk DX12_many_0 1 rfl) hl (by decide) rfl (fun ls hl => ?_)
  replace hl : lv_has ls 6 [(0, .ref a0), (1, .int a1), (2, .long a2), (4, .int 0)] := lv_sub hl [1, 2, 3, 0] rfl
  refine lv_iconst (v := 0) X.x X.b (dk DX12_many_0 2 rfl) (by decide) ?_
  refine lv_istore (lv' := [(5, .int 0), (0, .ref a0), (1, .int a1), (2, .long a2), (4, .int 0)]) X.x X.b (dk DX12_many_0 3 rfl) hl (by decide) rfl (fun ls hl => ?_)
  replace hl : lv_has ls 6 [(0, .ref a0), (1, .int a1), (2, .long a2), (4, .int 0), (5, .int 0)] := lv_sub hl [1, 2, 3, 4, 0] rfl
  obtain ⟨x12, e13, hF⟩ := bd hF
  replace hl : lv_has ls 6 [(0, .ref a0), (1, .int a1), (2, .long a2), (4, .int 0), (5, .int 0)] := lv_sub hl [0, 1, 2, 3, 4] rfl
  refine w_X12_many_6 ha0 X a1 a2 _ _ e13 _ _ _ hH hl (fun H locs ls hH hl => ?_)
  refine lv_iload X.x X.b (dk DX12_many_0 21 rfl) (lv_at hl 0 rfl) ?_
  cases sm hF
  exact mr_iret X hr hlk hH ⟨rfl, rfl⟩ (dk DX12_many_0 22 rfl)
-- X12_having
abbrev rm_X12_having : Room := { frames := 1, cells := 0, slots := 0, locals := 24 }
theorem hd_X12_having : mHd yX12_having 4 := ⟨by decide +kernel, by decide +kernel, by decide +kernel⟩
theorem DX12_having_0 : ∀ t ∈ ([(0, .iconst 0, 1), (1, .istore 5, 2), (3, .iconst 0, 1), (4, .istore 6, 2), (6, .iload 6, 2), (8, .iload_n 1, 1), (9, .if_icmp .ge 46, 3), (12, .iload 5, 2), (14, .lload_n 2, 1), (15, .aload_n 0, 1), (16, .iload 6, 2), (18, .laload, 1), (19, .ldc2_w 109, 3), (22, .lxor, 1), (23, .land, 1), (24, .lconst 0, 1), (25, .lcmp, 1), (26, .ifCond .ne 19, 3), (29, .aload_n 0, 1), (30, .iload 6, 2), (32, .laload, 1), (33, .invokestatic 283, 3), (36, .iload 4, 2), (38, .if_icmp .ne 7, 3), (41, .iconst 1, 1), (42, .goto 4, 3), (45, .iconst 0, 1), (46, .iadd, 1), (47, .istore 5, 2), (49, .iinc 6 1, 3), (52, .goto (-46), 3), (55, .iload 5, 2), (57, .ireturn, 1)] : List (Nat × Instr × Nat)), decode cX12_having t.1 = .ok (t.2.1, t.2.2) := by decide +kernel
noncomputable def f_X12_having_6 (na0 : Nat) (fa0 : Nat → Int64) (b1 : Int32) (b2 : Int64) (b4 : Int32) : (Int32 × Int32) → Option ((Int32 × Int32) ⊕ (Int32)) := fun z => match z with | (b5, b6) => (if b1 ≤ b6 then some (.inr b5) else if inb b6 na0 = true then (if (lg_cmp (b2 &&& ((fa0 (b6 : Int32).toNatClampNeg) ^^^ ((-1)))) 0) = 0 then (f_X12_ones (fa0 (b6 : Int32).toNatClampNeg)).bind (fun x8 => (if x8 = b4 then bnd (b5 + 1 : Int32) (fun v16 => bnd (b6 + 1 : Int32) (fun v18 => some (.inl ((v16, v18))))) else bnd (b5 + 0 : Int32) (fun v12 => bnd (b6 + 1 : Int32) (fun v14 => some (.inl ((v12, v14))))))) else bnd (b5 + 0 : Int32) (fun v4 => bnd (b6 + 1 : Int32) (fun v6 => some (.inl ((v4, v6)))))) else none)
noncomputable def f_X12_having (na0 : Nat) (fa0 : Nat → Int64) (a1 : Int32) (a2 : Int64) (a3 : Int32) : Option (Int32) := (lpv (f_X12_having_6 na0 fa0 a1 a2 a3) ((0, 0))).bind (fun x20 => some x20)
set_option maxHeartbeats 4000000 in
set_option maxRecDepth 100000 in
theorem w_X12_having_6 {p : Program} {l : Launch} {e : Env} {s : State} {m : MethodId} {args : Array Value} {below : List Frame} {meth : Method} {c : Code} {Q : State → Prop} {G : mG} {h : mM} {a0 : Nat} {na0 : Nat} {fa0 : Nat → Int64} (ha0 : h a0 = some (aJ G na0 fa0)) (X : mX G p m c cX12_having 7 s args RX12) (b1 : Int32) (b2 : Int64) (b4 : Int32) : ∀ (z : Int32 × Int32) (r : Int32), lpv (f_X12_having_6 na0 fa0 b1 b2 b4) z = some r → ∀ (H : Heap) (locs : List Loc) (ls : Array Slot), mH G (h) s.heap H locs → lv_has ls 7 [(0, .ref a0), (1, .int b1), (2, .long b2), (4, .int b4), (5, .int z.1), (6, .int z.2)] → (∀ (H : Heap) (locs : List Loc) (ls : Array Slot), mH G (h) s.heap H locs → lv_has ls 7 [(5, .int r)] → W p l e rm_X12_having s m args below meth c H locs 0 0 Q (F0 m 55 ls [])) → W p l e rm_X12_having s m args below meth c H locs 0 0 Q (F0 m 6 ls []) := by
  refine lpv_rec ?_
  intro z r x hF hx H locs ls hH hl K0
  obtain ⟨b5, b6⟩ := z
  dsimp only [f_X12_having_6] at hF
  try dsimp only at hH hl
  refine lv_iload X.x X.b (dk DX12_having_0 4 rfl) (lv_at hl 5 rfl) ?_
  refine lv_iload_n X.x X.b (dk DX12_having_0 5 rfl) rfl (lv_at hl 1 rfl) ?_
  refine lv_icmp_ge (tgt := 55) X.x X.b (dk DX12_having_0 6 rfl) (by decide) (fun c1 => ?_) (fun c1 => ?_)
  · replace hF := if_t hF c1
    have hr9 := lp_r hF hx
    subst hr9
    exact K0 _ _ _ hH (lv_sub hl [4] rfl)
  · replace hF := if_f hF c1
    refine lv_iload X.x X.b (dk DX12_having_0 7 rfl) (lv_at hl 4 rfl) ?_
    refine lv_lload_n X.x X.b (dk DX12_having_0 8 rfl) rfl (lv_at hl 2 rfl) ?_
    refine lv_aload_n X.x X.b (dk DX12_having_0 9 rfl) rfl (lv_at hl 0 rfl) ?_
    refine lv_iload X.x X.b (dk DX12_having_0 10 rfl) (lv_at hl 5 rfl) ?_
    obtain ⟨c2, hF⟩ := gd hF
    refine mr_lald X hH ha0 (inb_in c2) (dk DX12_having_0 11 rfl) ?_
    refine lv_ldc2 (v := (-1)) X.x X.b X.ow (X.ts _ kK_X12_109) (dk DX12_having_0 12 rfl) ?_
    refine lv_lxor X.x X.b (dk DX12_having_0 13 rfl) ?_
    refine lv_land X.x X.b (dk DX12_having_0 14 rfl) ?_
    refine lv_lconst (v := 0) X.x X.b (dk DX12_having_0 15 rfl) (by decide) ?_
    refine W.lcmp X.x X.b (dk DX12_having_0 16 rfl) ?_
    refine lv_if_ne (tgt := 45) X.x X.b (dk DX12_having_0 17 rfl) (by decide) (fun c3 => ?_) (fun c3 => ?_)
    · replace hF := if_f hF c3
      refine lv_iconst (v := 0) X.x X.b (dk DX12_having_0 26 rfl) (by decide) ?_
      refine lv_iadd X.x X.b (dk DX12_having_0 27 rfl) ?_
      refine lv_topi (fun v4 e5 => ?_)
      replace hF := bnd_e hF e5
      refine lv_istore (lv' := [(5, .int v4), (0, .ref a0), (1, .int b1), (2, .long b2), (4, .int b4), (6, .int b6)]) X.x X.b (dk DX12_having_0 28 rfl) hl (by decide) rfl (fun ls hl => ?_)
      replace hl : lv_has ls 7 [(0, .ref a0), (1, .int b1), (2, .long b2), (4, .int b4), (5, .int v4), (6, .int b6)] := lv_sub hl [1, 2, 3, 4, 0, 5] rfl
      obtain ⟨v6, e7⟩ : ∃ y : Int32, y = b6 + 1 := ⟨_, rfl⟩
      replace hF := bnd_e hF e7
      refine lv_iinc (v := v6) (lv' := [(6, .int v6), (0, .ref a0), (1, .int b1), (2, .long b2), (4, .int b4), (5, .int v4)]) X.x X.b (dk DX12_having_0 29 rfl) hl (k := 5) rfl (by rw [e7]; rfl) (by decide) rfl (fun ls hl => ?_)
      replace hl : lv_has ls 7 [(0, .ref a0), (1, .int b1), (2, .long b2), (4, .int b4), (5, .int v4), (6, .int v6)] := lv_sub hl [1, 2, 3, 4, 5, 0] rfl
      refine lv_goto (tgt := 6) X.x X.b (dk DX12_having_0 30 rfl) (by decide) ?_
      exact (lp_l hF hx) _ _ _ hH (lv_sub hl [0, 1, 2, 3, 4, 5] rfl) K0
    · replace hF := if_t hF c3
      refine lv_aload_n X.x X.b (dk DX12_having_0 18 rfl) rfl (lv_at hl 0 rfl) ?_
      refine lv_iload X.x X.b (dk DX12_having_0 19 rfl) (lv_at hl 5 rfl) ?_
      refine mr_lald X hH ha0 (inb_in c2) (dk DX12_having_0 20 rfl) ?_
      obtain ⟨x8, e9, hF⟩ := bd hF
      refine mr_ci0 hH ⟨rfl, rfl⟩ (mr_runS (As := [.long (fa0 (b6 : Int32).toNatClampNeg)]) (rest := [.int b5]) X hH (c_X12_ones e9) kM_X12_283 kT_X12_ones kN_X12 kC_X12_ones hd_X12_ones ⟨Nat.le_of_ble_eq_true rfl, Nat.le_of_ble_eq_true rfl⟩ rfl hl.1 (Nat.le_of_ble_eq_true rfl) (dk DX12_having_0 21 rfl) ⟨Nat.zero_le _, Nat.zero_le _⟩) (fun r h1 H locs hp hH => ?_)
      obtain ⟨hr1, hr2⟩ := hp; rw [hr1]; rw [hr2] at hH; clear hr1 hr2
      refine lv_iload X.x X.b (dk DX12_having_0 22 rfl) (lv_at hl 3 rfl) ?_
      refine lv_icmp_ne (tgt := 45) X.x X.b (dk DX12_having_0 23 rfl) (by decide) (fun c11 => ?_) (fun c11 => ?_)
      · replace hF := if_f hF c11
        refine lv_iconst (v := 0) X.x X.b (dk DX12_having_0 26 rfl) (by decide) ?_
        refine lv_iadd X.x X.b (dk DX12_having_0 27 rfl) ?_
        refine lv_topi (fun v12 e13 => ?_)
        replace hF := bnd_e hF e13
        refine lv_istore (lv' := [(5, .int v12), (0, .ref a0), (1, .int b1), (2, .long b2), (4, .int b4), (6, .int b6)]) X.x X.b (dk DX12_having_0 28 rfl) hl (by decide) rfl (fun ls hl => ?_)
        replace hl : lv_has ls 7 [(0, .ref a0), (1, .int b1), (2, .long b2), (4, .int b4), (5, .int v12), (6, .int b6)] := lv_sub hl [1, 2, 3, 4, 0, 5] rfl
        obtain ⟨v14, e15⟩ : ∃ y : Int32, y = b6 + 1 := ⟨_, rfl⟩
        replace hF := bnd_e hF e15
        refine lv_iinc (v := v14) (lv' := [(6, .int v14), (0, .ref a0), (1, .int b1), (2, .long b2), (4, .int b4), (5, .int v12)]) X.x X.b (dk DX12_having_0 29 rfl) hl (k := 5) rfl (by rw [e15]; rfl) (by decide) rfl (fun ls hl => ?_)
        replace hl : lv_has ls 7 [(0, .ref a0), (1, .int b1), (2, .long b2), (4, .int b4), (5, .int v12), (6, .int v14)] := lv_sub hl [1, 2, 3, 4, 5, 0] rfl
        refine lv_goto (tgt := 6) X.x X.b (dk DX12_having_0 30 rfl) (by decide) ?_
        exact (lp_l hF hx) _ _ _ hH (lv_sub hl [0, 1, 2, 3, 4, 5] rfl) K0
      · replace hF := if_t hF c11
        refine lv_iconst (v := 1) X.x X.b (dk DX12_having_0 24 rfl) (by decide) ?_
        refine lv_goto (tgt := 46) X.x X.b (dk DX12_having_0 25 rfl) (by decide) ?_
        refine lv_iadd X.x X.b (dk DX12_having_0 27 rfl) ?_
        refine lv_topi (fun v16 e17 => ?_)
        replace hF := bnd_e hF e17
        refine lv_istore (lv' := [(5, .int v16), (0, .ref a0), (1, .int b1), (2, .long b2), (4, .int b4), (6, .int b6)]) X.x X.b (dk DX12_having_0 28 rfl) hl (by decide) rfl (fun ls hl => ?_)
        replace hl : lv_has ls 7 [(0, .ref a0), (1, .int b1), (2, .long b2), (4, .int b4), (5, .int v16), (6, .int b6)] := lv_sub hl [1, 2, 3, 4, 0, 5] rfl
        obtain ⟨v18, e19⟩ : ∃ y : Int32, y = b6 + 1 := ⟨_, rfl⟩
        replace hF := bnd_e hF e19
        refine lv_iinc (v := v18) (lv' := [(6, .int v18), (0, .ref a0), (1, .int b1), (2, .long b2), (4, .int b4), (5, .int v16)]) X.x X.b (dk DX12_having_0 29 rfl) hl (k := 5) rfl (by rw [e19]; rfl) (by decide) rfl (fun ls hl => ?_)
        replace hl : lv_has ls 7 [(0, .ref a0), (1, .int b1), (2, .long b2), (4, .int b4), (5, .int v16), (6, .int v18)] := lv_sub hl [1, 2, 3, 4, 5, 0] rfl
        refine lv_goto (tgt := 6) X.x X.b (dk DX12_having_0 30 rfl) (by decide) ?_
        exact (lp_l hF hx) _ _ _ hH (lv_sub hl [0, 1, 2, 3, 4, 5] rfl) K0
set_option maxHeartbeats 4000000 in
set_option maxRecDepth 100000 in
theorem c_X12_having {l : Launch} {G : mG} {h : mM} {a0 : Nat} {na0 : Nat} {fa0 : Nat → Int64} (ha0 : h a0 = some (aJ G na0 fa0)) {a1 : Int32} {a2 : Int64} {a3 : Int32} {x : Int32} (hF : f_X12_having na0 fa0 a1 a2 a3 = some x) : cQ l G yX12_having cX12_having 7 (some FieldType.int) rm_X12_having [.ref a0, .int a1, .long a2, .int a3] (h) (mQi G (fun r h1 => r = x ∧ h1 = h)) := by
  refine mp_of (by decide +kernel) (Nat.le_of_ble_eq_true rfl) ?_
  intro p e s m below meth c X hr hlk hH hname ls hl
  dsimp only [f_X12_having] at hF
  replace hl : lv_has ls 7 [(0, .ref a0), (1, .int a1), (2, .long a2), (4, .int a3)] := hl
  refine lv_iconst (v := 0) X.x X.b (dk DX12_having_0 0 rfl) (by decide) ?_
  refine lv_istore (lv' := [(5, .int 0), (0, .ref a0), (1, .int a1), (2, .long a2), (4, .int a3)]) X.x X.b (dk DX12_having_0 1 rfl) hl (by decide) rfl (fun ls hl => ?_)
  replace hl : lv_has ls 7 [(0, .ref a0), (1, .int a1), (2, .long a2), (4, .int a3), (5, .int 0)] := lv_sub hl [1, 2, 3, 4, 0] rfl
  refine lv_iconst (v := 0) X.x X.b (dk DX12_having_0 2 rfl) (by decide) ?_
  refine lv_istore (lv' := [(6, .int 0), (0, .ref a0), (1, .int a1), (2, .long a2), (4, .int a3), (5, .int 0)]) X.x X.b (dk DX12_having_0 3 rfl) hl (by decide) rfl (fun ls hl => ?_)
  replace hl : lv_has ls 7 [(0, .ref a0), (1, .int a1), (2, .long a2), (4, .int a3), (5, .int 0), (6, .int 0)] := lv_sub hl [1, 2, 3, 4, 5, 0] rfl
  obtain ⟨x20, e21, hF⟩ := bd hF
  replace hl : lv_has ls 7 [(0, .ref a0), (1, .int a1), (2, .long a2), (4, .int a3), (5, .int 0), (6, .int 0)] := lv_sub hl [0, 1, 2, 3, 4, 5] rfl
  refine w_X12_having_6 ha0 X a1 a2 a3 _ _ e21 _ _ _ hH hl (fun H locs ls hH hl => ?_)
  refine lv_iload X.x X.b (dk DX12_having_0 31 rfl) (lv_at hl 0 rfl) ?_
  cases sm hF
  exact mr_iret X hr hlk hH ⟨rfl, rfl⟩ (dk DX12_having_0 32 rfl)
-- X12_isFrom
abbrev rm_X12_isFrom : Room := { frames := 1, cells := 0, slots := 0, locals := 25 }
theorem hd_X12_isFrom : mHd yX12_isFrom 1 := ⟨by decide +kernel, by decide +kernel, by decide +kernel⟩
theorem DX12_isFrom_0 : ∀ t ∈ ([(0, .lconst 0, 1), (1, .lstore_n 3, 1), (2, .iconst 0, 1), (3, .istore 5, 2), (5, .iload 5, 2), (7, .aload_n 0, 1), (8, .getfield 248, 3), (11, .if_icmp .ge 42, 3), (14, .aload_n 0, 1), (15, .getfield 63, 3), (18, .iload 5, 2), (20, .iaload, 1), (21, .iconst (-1), 1), (22, .if_icmp .eq 25, 3), (25, .lload_n 1, 1), (26, .aload_n 0, 1), (27, .getfield 63, 3), (30, .iload 5, 2), (32, .iaload, 1), (33, .invokestatic 232, 3), (36, .ifCond .eq 11, 3), (39, .lload_n 3, 1), (40, .iload 5, 2), (42, .invokestatic 111, 3), (45, .lor, 1), (46, .lstore_n 3, 1), (47, .iinc 5 1, 3), (50, .goto (-45), 3), (53, .aload_n 0, 1), (54, .getfield 7, 3), (57, .aload_n 0, 1), (58, .getfield 250, 3), (61, .lload_n 3, 1), (62, .invokestatic 384, 3), (65, .ifCond .le 7, 3), (68, .iconst 1, 1), (69, .goto 4, 3), (72, .iconst 0, 1), (73, .ireturn, 1)] : List (Nat × Instr × Nat)), decode cX12_isFrom t.1 = .ok (t.2.1, t.2.2) := by decide +kernel
noncomputable def f_X12_isFrom_5 (s_t : OS) (b1 : Int64) : (Int64 × Int32) → Option ((Int64 × Int32) ⊕ (Int64)) := fun z => match z with | (b3, b5) => (if (s_t.1 0) ≤ b5 then some (.inr b3) else if inb b5 16 = true then (if (s_t.2.2.1 36 (b5 : Int32).toNatClampNeg) = ((-1)) then bnd (b5 + 1 : Int32) (fun v4 => some (.inl ((b3, v4)))) else (f_X12_has b1 (s_t.2.2.1 36 (b5 : Int32).toNatClampNeg)).bind (fun x6 => (if x6 = 0 then bnd (b5 + 1 : Int32) (fun v10 => some (.inl ((b3, v10)))) else (f_X12_bit b5).bind (fun x12 => bnd (b3 ||| x12 : Int64) (fun v15 => bnd (b5 + 1 : Int32) (fun v17 => some (.inl ((v15, v17))))))))) else none)
noncomputable def f_X12_isFrom (st : OS) (a0 : Int64) : Option (Int32) := (lpv (f_X12_isFrom_5 st a0) ((0, 0))).bind (fun x19 => (f_X12_many 64 ((st.2.2.2 3)) (st.1 1) x19).bind (fun x22 => (if x22 ≤ 0 then some 0 else some 1)))
set_option maxHeartbeats 4000000 in
set_option maxRecDepth 100000 in
theorem w_X12_isFrom_5 {p : Program} {l : Launch} {e : Env} {s : State} {m : MethodId} {args : Array Value} {below : List Frame} {meth : Method} {c : Code} {Q : State → Prop} {G : mG} {h : mM} {q : Nat → Nat} (hq : oinj LX12 q) (X : mX G p m c cX12_isFrom 6 s args RX12) (s_t : OS) (b1 : Int64) : ∀ (z : Int64 × Int32) (r : Int64), lpv (f_X12_isFrom_5 s_t b1) z = some r → ∀ (H : Heap) (locs : List Loc) (ls : Array Slot), mH G (oset LX12 G q s_t h) s.heap H locs → lv_has ls 6 [(0, .ref (q 53)), (1, .long b1), (3, .long z.1), (5, .int z.2)] → (∀ (H : Heap) (locs : List Loc) (ls : Array Slot), mH G (oset LX12 G q s_t h) s.heap H locs → lv_has ls 6 [(0, .ref (q 53)), (3, .long r)] → W p l e rm_X12_isFrom s m args below meth c H locs 0 0 Q (F0 m 53 ls [])) → W p l e rm_X12_isFrom s m args below meth c H locs 0 0 Q (F0 m 5 ls []) := by
  refine lpv_rec ?_
  intro z r x hF hx H locs ls hH hl K0
  obtain ⟨b3, b5⟩ := z
  dsimp only [f_X12_isFrom_5] at hF
  try dsimp only at hH hl
  refine lv_iload X.x X.b (dk DX12_isFrom_0 4 rfl) (lv_at hl 3 rfl) ?_
  refine lv_aload_n X.x X.b (dk DX12_isFrom_0 5 rfl) rfl (lv_at hl 0 rfl) ?_
  refine og_getI OX12 X hq hH 0 (by decide) rfl kF_X12_248 (dk DX12_isFrom_0 6 rfl) ?_
  refine lv_icmp_ge (tgt := 53) X.x X.b (dk DX12_isFrom_0 7 rfl) (by decide) (fun c1 => ?_) (fun c1 => ?_)
  · replace hF := if_t hF c1
    have hr9 := lp_r hF hx
    subst hr9
    exact K0 _ _ _ hH (lv_sub hl [0, 2] rfl)
  · replace hF := if_f hF c1
    refine lv_aload_n X.x X.b (dk DX12_isFrom_0 8 rfl) rfl (lv_at hl 0 rfl) ?_
    refine og_getR (t := 0) OX12 X hq hH 36 (by decide) rfl kF_X12_63 (dk DX12_isFrom_0 9 rfl) ?_
    refine lv_iload X.x X.b (dk DX12_isFrom_0 10 rfl) (lv_at hl 3 rfl) ?_
    obtain ⟨c2, hF⟩ := gd hF
    refine og_iald X hq hH 36 (by decide) rfl (inb_in c2) (dk DX12_isFrom_0 11 rfl) ?_
    refine lv_iconst (v := (-1)) X.x X.b (dk DX12_isFrom_0 12 rfl) (by decide) ?_
    refine lv_icmp_eq (tgt := 47) X.x X.b (dk DX12_isFrom_0 13 rfl) (by decide) (fun c3 => ?_) (fun c3 => ?_)
    · replace hF := if_t hF c3
      obtain ⟨v4, e5⟩ : ∃ y : Int32, y = b5 + 1 := ⟨_, rfl⟩
      replace hF := bnd_e hF e5
      refine lv_iinc (v := v4) (lv' := [(5, .int v4), (0, .ref (q 53)), (1, .long b1), (3, .long b3)]) X.x X.b (dk DX12_isFrom_0 26 rfl) hl (k := 3) rfl (by rw [e5]; rfl) (by decide) rfl (fun ls hl => ?_)
      replace hl : lv_has ls 6 [(0, .ref (q 53)), (1, .long b1), (3, .long b3), (5, .int v4)] := lv_sub hl [1, 2, 3, 0] rfl
      refine lv_goto (tgt := 5) X.x X.b (dk DX12_isFrom_0 27 rfl) (by decide) ?_
      exact (lp_l hF hx) _ _ _ hH (lv_sub hl [0, 1, 2, 3] rfl) K0
    · replace hF := if_f hF c3
      refine lv_lload_n X.x X.b (dk DX12_isFrom_0 14 rfl) rfl (lv_at hl 1 rfl) ?_
      refine lv_aload_n X.x X.b (dk DX12_isFrom_0 15 rfl) rfl (lv_at hl 0 rfl) ?_
      refine og_getR (t := 0) OX12 X hq hH 36 (by decide) rfl kF_X12_63 (dk DX12_isFrom_0 16 rfl) ?_
      refine lv_iload X.x X.b (dk DX12_isFrom_0 17 rfl) (lv_at hl 3 rfl) ?_
      refine og_iald X hq hH 36 (by decide) rfl (inb_in c2) (dk DX12_isFrom_0 18 rfl) ?_
      obtain ⟨x6, e7, hF⟩ := bd hF
      refine mr_ci0 hH ⟨rfl, rfl⟩ (mr_runS (As := [.long b1, .int (s_t.2.2.1 36 (b5 : Int32).toNatClampNeg)]) (rest := []) X hH (c_X12_has e7) kM_X12_232 kT_X12_has kN_X12 kC_X12_has hd_X12_has ⟨Nat.le_of_ble_eq_true rfl, Nat.le_of_ble_eq_true rfl⟩ rfl hl.1 (Nat.le_of_ble_eq_true rfl) (dk DX12_isFrom_0 19 rfl) ⟨Nat.zero_le _, Nat.zero_le _⟩) (fun r h1 H locs hp hH => ?_)
      obtain ⟨hr1, hr2⟩ := hp; rw [hr1]; rw [hr2] at hH; clear hr1 hr2
      refine lv_if_eq (tgt := 47) X.x X.b (dk DX12_isFrom_0 20 rfl) (by decide) (fun c9 => ?_) (fun c9 => ?_)
      · replace hF := if_t hF c9
        obtain ⟨v10, e11⟩ : ∃ y : Int32, y = b5 + 1 := ⟨_, rfl⟩
        replace hF := bnd_e hF e11
        refine lv_iinc (v := v10) (lv' := [(5, .int v10), (0, .ref (q 53)), (1, .long b1), (3, .long b3)]) X.x X.b (dk DX12_isFrom_0 26 rfl) hl (k := 3) rfl (by rw [e11]; rfl) (by decide) rfl (fun ls hl => ?_)
        replace hl : lv_has ls 6 [(0, .ref (q 53)), (1, .long b1), (3, .long b3), (5, .int v10)] := lv_sub hl [1, 2, 3, 0] rfl
        refine lv_goto (tgt := 5) X.x X.b (dk DX12_isFrom_0 27 rfl) (by decide) ?_
        exact (lp_l hF hx) _ _ _ hH (lv_sub hl [0, 1, 2, 3] rfl) K0
      · replace hF := if_f hF c9
        refine lv_lload_n X.x X.b (dk DX12_isFrom_0 21 rfl) rfl (lv_at hl 2 rfl) ?_
        refine lv_iload X.x X.b (dk DX12_isFrom_0 22 rfl) (lv_at hl 3 rfl) ?_
        obtain ⟨x12, e13, hF⟩ := bd hF
        refine mr_cl0 hH ⟨rfl, rfl⟩ (mr_runS (As := [.int b5]) (rest := [.long b3]) X hH (c_X12_bit e13) kM_X12_111 kT_X12_bit kN_X12 kC_X12_bit hd_X12_bit ⟨Nat.le_of_ble_eq_true rfl, Nat.le_of_ble_eq_true rfl⟩ rfl hl.1 (Nat.le_of_ble_eq_true rfl) (dk DX12_isFrom_0 23 rfl) ⟨Nat.zero_le _, Nat.zero_le _⟩) (fun r h1 H locs hp hH => ?_)
        obtain ⟨hr1, hr2⟩ := hp; rw [hr1]; rw [hr2] at hH; clear hr1 hr2
        refine lv_lor X.x X.b (dk DX12_isFrom_0 24 rfl) ?_
        refine lv_topl (fun v15 e16 => ?_)
        replace hF := bnd_e hF e16
        refine lv_lstore_n (lv' := [(3, .long v15), (0, .ref (q 53)), (1, .long b1), (5, .int b5)]) X.x X.b (dk DX12_isFrom_0 25 rfl) rfl hl (by decide) rfl (fun ls hl => ?_)
        replace hl : lv_has ls 6 [(0, .ref (q 53)), (1, .long b1), (3, .long v15), (5, .int b5)] := lv_sub hl [1, 2, 0, 3] rfl
        obtain ⟨v17, e18⟩ : ∃ y : Int32, y = b5 + 1 := ⟨_, rfl⟩
        replace hF := bnd_e hF e18
        refine lv_iinc (v := v17) (lv' := [(5, .int v17), (0, .ref (q 53)), (1, .long b1), (3, .long v15)]) X.x X.b (dk DX12_isFrom_0 26 rfl) hl (k := 3) rfl (by rw [e18]; rfl) (by decide) rfl (fun ls hl => ?_)
        replace hl : lv_has ls 6 [(0, .ref (q 53)), (1, .long b1), (3, .long v15), (5, .int v17)] := lv_sub hl [1, 2, 3, 0] rfl
        refine lv_goto (tgt := 5) X.x X.b (dk DX12_isFrom_0 27 rfl) (by decide) ?_
        exact (lp_l hF hx) _ _ _ hH (lv_sub hl [0, 1, 2, 3] rfl) K0
set_option maxHeartbeats 4000000 in
set_option maxRecDepth 100000 in
theorem c_X12_isFrom {l : Launch} {G : mG} {h : mM} {q : Nat → Nat} (hq : oinj LX12 q) {st : OS} {a0 : Int64} {x : Int32} (hF : f_X12_isFrom st a0 = some x) : cQ l G yX12_isFrom cX12_isFrom 6 (some FieldType.boolean) rm_X12_isFrom [.ref (q 53), .long a0] (oset LX12 G q st h) (mQi G (fun r h1 => r = x ∧ h1 = oset LX12 G q st h)) := by
  refine mp_of (by decide +kernel) (Nat.le_of_ble_eq_true rfl) ?_
  intro p e s m below meth c X hr hlk hH hname ls hl
  dsimp only [f_X12_isFrom] at hF
  replace hl : lv_has ls 6 [(0, .ref (q 53)), (1, .long a0)] := hl
  refine lv_lconst (v := 0) X.x X.b (dk DX12_isFrom_0 0 rfl) (by decide) ?_
  refine lv_lstore_n (lv' := [(3, .long 0), (0, .ref (q 53)), (1, .long a0)]) X.x X.b (dk DX12_isFrom_0 1 rfl) rfl hl (by decide) rfl (fun ls hl => ?_)
  replace hl : lv_has ls 6 [(0, .ref (q 53)), (1, .long a0), (3, .long 0)] := lv_sub hl [1, 2, 0] rfl
  refine lv_iconst (v := 0) X.x X.b (dk DX12_isFrom_0 2 rfl) (by decide) ?_
  refine lv_istore (lv' := [(5, .int 0), (0, .ref (q 53)), (1, .long a0), (3, .long 0)]) X.x X.b (dk DX12_isFrom_0 3 rfl) hl (by decide) rfl (fun ls hl => ?_)
  replace hl : lv_has ls 6 [(0, .ref (q 53)), (1, .long a0), (3, .long 0), (5, .int 0)] := lv_sub hl [1, 2, 3, 0] rfl
  obtain ⟨x19, e20, hF⟩ := bd hF
  replace hl : lv_has ls 6 [(0, .ref (q 53)), (1, .long a0), (3, .long 0), (5, .int 0)] := lv_sub hl [0, 1, 2, 3] rfl
  refine w_X12_isFrom_5 hq X st a0 _ _ e20 _ _ _ hH hl (fun H locs ls hH hl => ?_)
  refine lv_aload_n X.x X.b (dk DX12_isFrom_0 28 rfl) rfl (lv_at hl 0 rfl) ?_
  refine og_getR (t := 1) OX12 X hq hH 3 (by decide) rfl kF_X12_7 (dk DX12_isFrom_0 29 rfl) ?_
  refine lv_aload_n X.x X.b (dk DX12_isFrom_0 30 rfl) rfl (lv_at hl 0 rfl) ?_
  refine og_getI OX12 X hq hH 1 (by decide) rfl kF_X12_250 (dk DX12_isFrom_0 31 rfl) ?_
  refine lv_lload_n X.x X.b (dk DX12_isFrom_0 32 rfl) rfl (lv_at hl 1 rfl) ?_
  obtain ⟨x22, e23, hF⟩ := bd hF
  refine mr_ci0 hH ⟨rfl, rfl⟩ (mr_runS (As := [.ref (q 3), .int (st.1 1), .long x19]) (rest := []) X hH (c_X12_many ((oset_at hq (k := 3) (by decide) rfl).trans (congrArg some (oc_k (t := 3) (n := 64) (by decide) rfl))) e23) kM_X12_384 kT_X12_many kN_X12 kC_X12_many hd_X12_many ⟨Nat.le_of_ble_eq_true rfl, Nat.le_of_ble_eq_true rfl⟩ rfl hl.1 (Nat.le_of_ble_eq_true rfl) (dk DX12_isFrom_0 33 rfl) ⟨Nat.zero_le _, Nat.zero_le _⟩) (fun r h1 H locs hp hH => ?_)
  obtain ⟨hr1, hr2⟩ := hp; rw [hr1]; rw [hr2] at hH; clear hr1 hr2
  refine lv_if_le (tgt := 72) X.x X.b (dk DX12_isFrom_0 34 rfl) (by decide) (fun c25 => ?_) (fun c25 => ?_)
  · replace hF := if_t hF c25
    refine lv_iconst (v := 0) X.x X.b (dk DX12_isFrom_0 37 rfl) (by decide) ?_
    cases sm hF
    exact mr_zret X hr hlk hH rfl ⟨rfl, rfl⟩ (dk DX12_isFrom_0 38 rfl)
  · replace hF := if_f hF c25
    refine lv_iconst (v := 1) X.x X.b (dk DX12_isFrom_0 35 rfl) (by decide) ?_
    refine lv_goto (tgt := 73) X.x X.b (dk DX12_isFrom_0 36 rfl) (by decide) ?_
    cases sm hF
    exact mr_zret X hr hlk hH rfl ⟨rfl, rfl⟩ (dk DX12_isFrom_0 38 rfl)
-- X12_throughOther
abbrev rm_X12_throughOther : Room := { frames := 1, cells := 0, slots := 0, locals := 22 }
theorem hd_X12_throughOther : mHd yX12_throughOther 1 := ⟨by decide +kernel, by decide +kernel, by decide +kernel⟩
theorem DX12_throughOther_0 : ∀ t ∈ ([(0, .iconst 0, 1), (1, .istore_n 2, 1), (2, .iconst 0, 1), (3, .istore_n 3, 1), (4, .iload_n 3, 1), (5, .aload_n 0, 1), (6, .getfield 365, 3), (9, .if_icmp .ge 30, 3), (12, .iload_n 2, 1), (13, .aload_n 0, 1), (14, .getfield 60, 3), (17, .iload_n 3, 1), (18, .laload, 1), (19, .iload_n 1, 1), (20, .invokestatic 232, 3), (23, .ifCond .eq 7, 3), (26, .iconst 1, 1), (27, .goto 4, 3), (30, .iconst 0, 1), (31, .iadd, 1), (32, .istore_n 2, 1), (33, .iinc 3 1, 3), (36, .goto (-32), 3), (39, .iload_n 2, 1), (40, .ireturn, 1)] : List (Nat × Instr × Nat)), decode cX12_throughOther t.1 = .ok (t.2.1, t.2.2) := by decide +kernel
noncomputable def f_X12_throughOther_4 (s_t : OS) (b1 : Int32) : (Int32 × Int32) → Option ((Int32 × Int32) ⊕ (Int32)) := fun z => match z with | (b2, b3) => (if (s_t.1 35) ≤ b3 then some (.inr b2) else if inb b3 64 = true then (f_X12_has (s_t.2.2.2 34 (b3 : Int32).toNatClampNeg) b1).bind (fun x3 => (if x3 = 0 then bnd (b2 + 0 : Int32) (fun v7 => bnd (b3 + 1 : Int32) (fun v9 => some (.inl ((v7, v9))))) else bnd (b2 + 1 : Int32) (fun v11 => bnd (b3 + 1 : Int32) (fun v13 => some (.inl ((v11, v13))))))) else none)
noncomputable def f_X12_throughOther (st : OS) (a0 : Int32) : Option (Int32) := (lpv (f_X12_throughOther_4 st a0) ((0, 0))).bind (fun x15 => some x15)
set_option maxHeartbeats 4000000 in
set_option maxRecDepth 100000 in
theorem w_X12_throughOther_4 {p : Program} {l : Launch} {e : Env} {s : State} {m : MethodId} {args : Array Value} {below : List Frame} {meth : Method} {c : Code} {Q : State → Prop} {G : mG} {h : mM} {q : Nat → Nat} (hq : oinj LX12 q) (X : mX G p m c cX12_throughOther 4 s args RX12) (s_t : OS) (b1 : Int32) : ∀ (z : Int32 × Int32) (r : Int32), lpv (f_X12_throughOther_4 s_t b1) z = some r → ∀ (H : Heap) (locs : List Loc) (ls : Array Slot), mH G (oset LX12 G q s_t h) s.heap H locs → lv_has ls 4 [(0, .ref (q 53)), (1, .int b1), (2, .int z.1), (3, .int z.2)] → (∀ (H : Heap) (locs : List Loc) (ls : Array Slot), mH G (oset LX12 G q s_t h) s.heap H locs → lv_has ls 4 [(2, .int r)] → W p l e rm_X12_throughOther s m args below meth c H locs 0 0 Q (F0 m 39 ls [])) → W p l e rm_X12_throughOther s m args below meth c H locs 0 0 Q (F0 m 4 ls []) := by
  refine lpv_rec ?_
  intro z r x hF hx H locs ls hH hl K0
  obtain ⟨b2, b3⟩ := z
  dsimp only [f_X12_throughOther_4] at hF
  try dsimp only at hH hl
  refine lv_iload_n X.x X.b (dk DX12_throughOther_0 4 rfl) rfl (lv_at hl 3 rfl) ?_
  refine lv_aload_n X.x X.b (dk DX12_throughOther_0 5 rfl) rfl (lv_at hl 0 rfl) ?_
  refine og_getI OX12 X hq hH 35 (by decide) rfl kF_X12_365 (dk DX12_throughOther_0 6 rfl) ?_
  refine lv_icmp_ge (tgt := 39) X.x X.b (dk DX12_throughOther_0 7 rfl) (by decide) (fun c1 => ?_) (fun c1 => ?_)
  · replace hF := if_t hF c1
    have hr9 := lp_r hF hx
    subst hr9
    exact K0 _ _ _ hH (lv_sub hl [2] rfl)
  · replace hF := if_f hF c1
    refine lv_iload_n X.x X.b (dk DX12_throughOther_0 8 rfl) rfl (lv_at hl 2 rfl) ?_
    refine lv_aload_n X.x X.b (dk DX12_throughOther_0 9 rfl) rfl (lv_at hl 0 rfl) ?_
    refine og_getR (t := 1) OX12 X hq hH 34 (by decide) rfl kF_X12_60 (dk DX12_throughOther_0 10 rfl) ?_
    refine lv_iload_n X.x X.b (dk DX12_throughOther_0 11 rfl) rfl (lv_at hl 3 rfl) ?_
    obtain ⟨c2, hF⟩ := gd hF
    refine og_lald X hq hH 34 (by decide) rfl (inb_in c2) (dk DX12_throughOther_0 12 rfl) ?_
    refine lv_iload_n X.x X.b (dk DX12_throughOther_0 13 rfl) rfl (lv_at hl 1 rfl) ?_
    obtain ⟨x3, e4, hF⟩ := bd hF
    refine mr_ci0 hH ⟨rfl, rfl⟩ (mr_runS (As := [.long (s_t.2.2.2 34 (b3 : Int32).toNatClampNeg), .int b1]) (rest := [.int b2]) X hH (c_X12_has e4) kM_X12_232 kT_X12_has kN_X12 kC_X12_has hd_X12_has ⟨Nat.le_of_ble_eq_true rfl, Nat.le_of_ble_eq_true rfl⟩ rfl hl.1 (Nat.le_of_ble_eq_true rfl) (dk DX12_throughOther_0 14 rfl) ⟨Nat.zero_le _, Nat.zero_le _⟩) (fun r h1 H locs hp hH => ?_)
    obtain ⟨hr1, hr2⟩ := hp; rw [hr1]; rw [hr2] at hH; clear hr1 hr2
    refine lv_if_eq (tgt := 30) X.x X.b (dk DX12_throughOther_0 15 rfl) (by decide) (fun c6 => ?_) (fun c6 => ?_)
    · replace hF := if_t hF c6
      refine lv_iconst (v := 0) X.x X.b (dk DX12_throughOther_0 18 rfl) (by decide) ?_
      refine lv_iadd X.x X.b (dk DX12_throughOther_0 19 rfl) ?_
      refine lv_topi (fun v7 e8 => ?_)
      replace hF := bnd_e hF e8
      refine lv_istore_n (lv' := [(2, .int v7), (0, .ref (q 53)), (1, .int b1), (3, .int b3)]) X.x X.b (dk DX12_throughOther_0 20 rfl) rfl hl (by decide) rfl (fun ls hl => ?_)
      replace hl : lv_has ls 4 [(0, .ref (q 53)), (1, .int b1), (2, .int v7), (3, .int b3)] := lv_sub hl [1, 2, 0, 3] rfl
      obtain ⟨v9, e10⟩ : ∃ y : Int32, y = b3 + 1 := ⟨_, rfl⟩
      replace hF := bnd_e hF e10
      refine lv_iinc (v := v9) (lv' := [(3, .int v9), (0, .ref (q 53)), (1, .int b1), (2, .int v7)]) X.x X.b (dk DX12_throughOther_0 21 rfl) hl (k := 3) rfl (by rw [e10]; rfl) (by decide) rfl (fun ls hl => ?_)
      replace hl : lv_has ls 4 [(0, .ref (q 53)), (1, .int b1), (2, .int v7), (3, .int v9)] := lv_sub hl [1, 2, 3, 0] rfl
      refine lv_goto (tgt := 4) X.x X.b (dk DX12_throughOther_0 22 rfl) (by decide) ?_
      exact (lp_l hF hx) _ _ _ hH (lv_sub hl [0, 1, 2, 3] rfl) K0
    · replace hF := if_f hF c6
      refine lv_iconst (v := 1) X.x X.b (dk DX12_throughOther_0 16 rfl) (by decide) ?_
      refine lv_goto (tgt := 31) X.x X.b (dk DX12_throughOther_0 17 rfl) (by decide) ?_
      refine lv_iadd X.x X.b (dk DX12_throughOther_0 19 rfl) ?_
      refine lv_topi (fun v11 e12 => ?_)
      replace hF := bnd_e hF e12
      refine lv_istore_n (lv' := [(2, .int v11), (0, .ref (q 53)), (1, .int b1), (3, .int b3)]) X.x X.b (dk DX12_throughOther_0 20 rfl) rfl hl (by decide) rfl (fun ls hl => ?_)
      replace hl : lv_has ls 4 [(0, .ref (q 53)), (1, .int b1), (2, .int v11), (3, .int b3)] := lv_sub hl [1, 2, 0, 3] rfl
      obtain ⟨v13, e14⟩ : ∃ y : Int32, y = b3 + 1 := ⟨_, rfl⟩
      replace hF := bnd_e hF e14
      refine lv_iinc (v := v13) (lv' := [(3, .int v13), (0, .ref (q 53)), (1, .int b1), (2, .int v11)]) X.x X.b (dk DX12_throughOther_0 21 rfl) hl (k := 3) rfl (by rw [e14]; rfl) (by decide) rfl (fun ls hl => ?_)
      replace hl : lv_has ls 4 [(0, .ref (q 53)), (1, .int b1), (2, .int v11), (3, .int v13)] := lv_sub hl [1, 2, 3, 0] rfl
      refine lv_goto (tgt := 4) X.x X.b (dk DX12_throughOther_0 22 rfl) (by decide) ?_
      exact (lp_l hF hx) _ _ _ hH (lv_sub hl [0, 1, 2, 3] rfl) K0
set_option maxHeartbeats 4000000 in
set_option maxRecDepth 100000 in
theorem c_X12_throughOther {l : Launch} {G : mG} {h : mM} {q : Nat → Nat} (hq : oinj LX12 q) {st : OS} {a0 : Int32} {x : Int32} (hF : f_X12_throughOther st a0 = some x) : cQ l G yX12_throughOther cX12_throughOther 4 (some FieldType.int) rm_X12_throughOther [.ref (q 53), .int a0] (oset LX12 G q st h) (mQi G (fun r h1 => r = x ∧ h1 = oset LX12 G q st h)) := by
  refine mp_of (by decide +kernel) (Nat.le_of_ble_eq_true rfl) ?_
  intro p e s m below meth c X hr hlk hH hname ls hl
  dsimp only [f_X12_throughOther] at hF
  replace hl : lv_has ls 4 [(0, .ref (q 53)), (1, .int a0)] := hl
  refine lv_iconst (v := 0) X.x X.b (dk DX12_throughOther_0 0 rfl) (by decide) ?_
  refine lv_istore_n (lv' := [(2, .int 0), (0, .ref (q 53)), (1, .int a0)]) X.x X.b (dk DX12_throughOther_0 1 rfl) rfl hl (by decide) rfl (fun ls hl => ?_)
  replace hl : lv_has ls 4 [(0, .ref (q 53)), (1, .int a0), (2, .int 0)] := lv_sub hl [1, 2, 0] rfl
  refine lv_iconst (v := 0) X.x X.b (dk DX12_throughOther_0 2 rfl) (by decide) ?_
  refine lv_istore_n (lv' := [(3, .int 0), (0, .ref (q 53)), (1, .int a0), (2, .int 0)]) X.x X.b (dk DX12_throughOther_0 3 rfl) rfl hl (by decide) rfl (fun ls hl => ?_)
  replace hl : lv_has ls 4 [(0, .ref (q 53)), (1, .int a0), (2, .int 0), (3, .int 0)] := lv_sub hl [1, 2, 3, 0] rfl
  obtain ⟨x15, e16, hF⟩ := bd hF
  replace hl : lv_has ls 4 [(0, .ref (q 53)), (1, .int a0), (2, .int 0), (3, .int 0)] := lv_sub hl [0, 1, 2, 3] rfl
  refine w_X12_throughOther_4 hq X st a0 _ _ e16 _ _ _ hH hl (fun H locs ls hH hl => ?_)
  refine lv_iload_n X.x X.b (dk DX12_throughOther_0 23 rfl) rfl (lv_at hl 0 rfl) ?_
  cases sm hF
  exact mr_iret X hr hlk hH ⟨rfl, rfl⟩ (dk DX12_throughOther_0 24 rfl)
-- X12_isWell
abbrev rm_X12_isWell : Room := { frames := 2, cells := 0, slots := 0, locals := 50 }
theorem hd_X12_isWell : mHd yX12_isWell 1 := ⟨by decide +kernel, by decide +kernel, by decide +kernel⟩
theorem DX12_isWell_0 : ∀ t ∈ ([(0, .iconst 0, 1), (1, .istore_n 2, 1), (2, .iload_n 2, 1), (3, .aload_n 0, 1), (4, .getfield 250, 3), (7, .if_icmp .ge 126, 3), (10, .aload_n 0, 1), (11, .getfield 7, 3), (14, .iload_n 2, 1), (15, .laload, 1), (16, .iload_n 1, 1), (17, .invokestatic 232, 3), (20, .ifCond .ne 6, 3), (23, .goto 104, 3), (26, .lconst 0, 1), (27, .lstore_n 3, 1), (28, .iconst 0, 1), (29, .istore 5, 2), (31, .iload 5, 2), (33, .aload_n 0, 1), (34, .getfield 248, 3), (37, .if_icmp .ge 42, 3), (40, .aload_n 0, 1), (41, .getfield 63, 3), (44, .iload 5, 2), (46, .iaload, 1), (47, .iconst (-1), 1), (48, .if_icmp .eq 25, 3), (51, .aload_n 0, 1), (52, .getfield 7, 3), (55, .iload_n 2, 1), (56, .laload, 1), (57, .iload 5, 2), (59, .invokestatic 232, 3), (62, .ifCond .eq 11, 3), (65, .lload_n 3, 1), (66, .iload 5, 2), (68, .invokestatic 111, 3), (71, .lor, 1), (72, .lstore_n 3, 1), (73, .iinc 5 1, 3), (76, .goto (-45), 3), (79, .aload_n 0, 1), (80, .getfield 7, 3), (83, .iload_n 2, 1), (84, .laload, 1), (85, .invokestatic 283, 3), (88, .istore 5, 2), (90, .aload_n 0, 1), (91, .getfield 7, 3), (94, .aload_n 0, 1), (95, .getfield 250, 3), (98, .lload_n 3, 1), (99, .iload 5, 2), (101, .invokestatic 368, 3), (104, .aload_n 0, 1), (105, .getfield 60, 3), (108, .aload_n 0, 1), (109, .getfield 365, 3), (112, .aload_n 0, 1)] : List (Nat × Instr × Nat)), decode cX12_isWell t.1 = .ok (t.2.1, t.2.2) := by decide +kernel
theorem DX12_isWell_1 : ∀ t ∈ ([(113, .lload_n 3, 1), (114, .invokevirtual 372, 3), (117, .iload 5, 2), (119, .invokestatic 368, 3), (122, .if_icmp .eq 5, 3), (125, .iconst 0, 1), (126, .ireturn, 1), (127, .iinc 2 1, 3), (130, .goto (-128), 3), (133, .iconst 0, 1), (134, .istore_n 2, 1), (135, .iload_n 2, 1), (136, .aload_n 0, 1), (137, .getfield 365, 3), (140, .if_icmp .ge 62, 3), (143, .aload_n 0, 1), (144, .getfield 60, 3), (147, .iload_n 2, 1), (148, .laload, 1), (149, .aload_n 0, 1), (150, .getfield 63, 3), (153, .iload_n 1, 1), (154, .iaload, 1), (155, .invokestatic 232, 3), (158, .ifCond .eq 38, 3), (161, .aload_n 0, 1), (162, .getfield 60, 3), (165, .iload_n 2, 1), (166, .laload, 1), (167, .aload_n 0, 1), (168, .getfield 375, 3), (171, .ldc2_w 109, 3), (174, .lxor, 1), (175, .land, 1), (176, .lconst 0, 1), (177, .lcmp, 1), (178, .ifCond .ne 18, 3), (181, .aload_n 0, 1), (182, .aload_n 0, 1), (183, .getfield 60, 3), (186, .iload_n 2, 1), (187, .laload, 1), (188, .invokevirtual 378, 3), (191, .ifCond .ne 5, 3), (194, .iconst 0, 1), (195, .ireturn, 1), (196, .iinc 2 1, 3), (199, .goto (-64), 3), (202, .aload_n 0, 1), (203, .iload_n 1, 1), (204, .invokevirtual 269, 3), (207, .invokestatic 283, 3), (210, .aload_n 0, 1), (211, .aload_n 0, 1), (212, .getfield 63, 3), (215, .iload_n 1, 1), (216, .iaload, 1), (217, .invokevirtual 381, 3), (220, .if_icmp .ne 7, 3), (223, .iconst 1, 1)] : List (Nat × Instr × Nat)), decode cX12_isWell t.1 = .ok (t.2.1, t.2.2) := by decide +kernel
theorem DX12_isWell_2 : ∀ t ∈ ([(224, .goto 4, 3), (227, .iconst 0, 1), (228, .ireturn, 1)] : List (Nat × Instr × Nat)), decode cX12_isWell t.1 = .ok (t.2.1, t.2.2) := by decide +kernel
noncomputable def f_X12_isWell_31 (s_t : OS) (b1 : Int32) (b2 : Int32) : (Int64 × Int32) → Option ((Int64 × Int32) ⊕ (Int64)) := fun z => match z with | (b3, b5) => (if (s_t.1 0) ≤ b5 then some (.inr b3) else if inb b5 16 = true then (if (s_t.2.2.1 36 (b5 : Int32).toNatClampNeg) = ((-1)) then bnd (b5 + 1 : Int32) (fun v10 => some (.inl ((b3, v10)))) else if inb b2 64 = true then (f_X12_has (s_t.2.2.2 3 (b2 : Int32).toNatClampNeg) b5).bind (fun x13 => (if x13 = 0 then bnd (b5 + 1 : Int32) (fun v17 => some (.inl ((b3, v17)))) else (f_X12_bit b5).bind (fun x19 => bnd (b3 ||| x19 : Int64) (fun v22 => bnd (b5 + 1 : Int32) (fun v24 => some (.inl ((v22, v24)))))))) else none) else none)
noncomputable def f_X12_isWell_2 (s_t : OS) (b1 : Int32) : Int32 → Option ((Int32) ⊕ (Nat)) := fun b2 => (if (s_t.1 1) ≤ b2 then some (.inr 1) else if inb b2 64 = true then (f_X12_has (s_t.2.2.2 3 (b2 : Int32).toNatClampNeg) b1).bind (fun x3 => (if x3 = 0 then bnd (b2 + 1 : Int32) (fun v44 => some (.inl v44)) else (lpv (f_X12_isWell_31 s_t b1 b2) ((0, 0))).bind (fun x26 => (f_X12_ones (s_t.2.2.2 3 (b2 : Int32).toNatClampNeg)).bind (fun x29 => (f_X12_having 64 ((s_t.2.2.2 3)) (s_t.1 1) x26 x29).bind (fun x32 => (f_X12_goneTo s_t x26).bind (fun x35 => (f_X12_having 64 ((s_t.2.2.2 34)) (s_t.1 35) x35 x29).bind (fun x38 => (if x32 = x38 then bnd (b2 + 1 : Int32) (fun v42 => some (.inl v42)) else some (.inr 0))))))))) else none)
noncomputable def f_X12_isWell_135 (s_t : OS) (b1 : Int32) : Int32 → Option ((Int32) ⊕ (Nat)) := fun b2 => (if (s_t.1 35) ≤ b2 then some (.inr 1) else if inb b2 64 = true then if inb b1 16 = true then (f_X12_has (s_t.2.2.2 34 (b2 : Int32).toNatClampNeg) (s_t.2.2.1 36 (b1 : Int32).toNatClampNeg)).bind (fun x52 => (if x52 = 0 then bnd (b2 + 1 : Int32) (fun v56 => some (.inl v56)) else (if (lg_cmp ((s_t.2.2.2 34 (b2 : Int32).toNatClampNeg) &&& ((s_t.2.1 37) ^^^ ((-1)))) 0) = 0 then (f_X12_isFrom s_t (s_t.2.2.2 34 (b2 : Int32).toNatClampNeg)).bind (fun x61 => (if x61 = 0 then some (.inr 0) else bnd (b2 + 1 : Int32) (fun v65 => some (.inl v65)))) else bnd (b2 + 1 : Int32) (fun v59 => some (.inl v59))))) else none else none)
noncomputable def f_X12_isWell (st : OS) (a0 : Int32) : Option (Int32) := (lpv (f_X12_isWell_2 st a0) 0).bind (fun x46 => (if x46 = 0 then some 0 else (lpv (f_X12_isWell_135 st a0) 0).bind (fun x67 => (if x67 = 0 then some 0 else (f_X12_throughOf st a0).bind (fun x70 => (f_X12_ones x70).bind (fun x73 => if inb a0 16 = true then (f_X12_throughOther st (st.2.2.1 36 (a0 : Int32).toNatClampNeg)).bind (fun x77 => (if x73 = x77 then some 1 else some 0)) else none))))))
set_option maxHeartbeats 4000000 in
set_option maxRecDepth 100000 in
theorem w_X12_isWell_31 {p : Program} {l : Launch} {e : Env} {s : State} {m : MethodId} {args : Array Value} {below : List Frame} {meth : Method} {c : Code} {Q : State → Prop} {G : mG} {h : mM} {q : Nat → Nat} (hq : oinj LX12 q) (X : mX G p m c cX12_isWell 6 s args RX12) (s_t : OS) (b1 : Int32) (b2 : Int32) : ∀ (z : Int64 × Int32) (r : Int64), lpv (f_X12_isWell_31 s_t b1 b2) z = some r → ∀ (H : Heap) (locs : List Loc) (ls : Array Slot), mH G (oset LX12 G q s_t h) s.heap H locs → lv_has ls 6 [(0, .ref (q 53)), (1, .int b1), (2, .int b2), (3, .long z.1), (5, .int z.2)] → (∀ (H : Heap) (locs : List Loc) (ls : Array Slot), mH G (oset LX12 G q s_t h) s.heap H locs → lv_has ls 6 [(0, .ref (q 53)), (1, .int b1), (2, .int b2), (3, .long r)] → W p l e rm_X12_isWell s m args below meth c H locs 0 0 Q (F0 m 79 ls [])) → W p l e rm_X12_isWell s m args below meth c H locs 0 0 Q (F0 m 31 ls []) := by
  refine lpv_rec ?_
  intro z r x hF hx H locs ls hH hl K0
  obtain ⟨b3, b5⟩ := z
  dsimp only [f_X12_isWell_31] at hF
  try dsimp only at hH hl
  refine lv_iload X.x X.b (dk DX12_isWell_0 18 rfl) (lv_at hl 4 rfl) ?_
  refine lv_aload_n X.x X.b (dk DX12_isWell_0 19 rfl) rfl (lv_at hl 0 rfl) ?_
  refine og_getI OX12 X hq hH 0 (by decide) rfl kF_X12_248 (dk DX12_isWell_0 20 rfl) ?_
  refine lv_icmp_ge (tgt := 79) X.x X.b (dk DX12_isWell_0 21 rfl) (by decide) (fun c7 => ?_) (fun c7 => ?_)
  · replace hF := if_t hF c7
    have hr9 := lp_r hF hx
    subst hr9
    exact K0 _ _ _ hH (lv_sub hl [0, 1, 2, 3] rfl)
  · replace hF := if_f hF c7
    refine lv_aload_n X.x X.b (dk DX12_isWell_0 22 rfl) rfl (lv_at hl 0 rfl) ?_
    refine og_getR (t := 0) OX12 X hq hH 36 (by decide) rfl kF_X12_63 (dk DX12_isWell_0 23 rfl) ?_
    refine lv_iload X.x X.b (dk DX12_isWell_0 24 rfl) (lv_at hl 4 rfl) ?_
    obtain ⟨c8, hF⟩ := gd hF
    refine og_iald X hq hH 36 (by decide) rfl (inb_in c8) (dk DX12_isWell_0 25 rfl) ?_
    refine lv_iconst (v := (-1)) X.x X.b (dk DX12_isWell_0 26 rfl) (by decide) ?_
    refine lv_icmp_eq (tgt := 73) X.x X.b (dk DX12_isWell_0 27 rfl) (by decide) (fun c9 => ?_) (fun c9 => ?_)
    · replace hF := if_t hF c9
      obtain ⟨v10, e11⟩ : ∃ y : Int32, y = b5 + 1 := ⟨_, rfl⟩
      replace hF := bnd_e hF e11
      refine lv_iinc (v := v10) (lv' := [(5, .int v10), (0, .ref (q 53)), (1, .int b1), (2, .int b2), (3, .long b3)]) X.x X.b (dk DX12_isWell_0 40 rfl) hl (k := 4) rfl (by rw [e11]; rfl) (by decide) rfl (fun ls hl => ?_)
      replace hl : lv_has ls 6 [(0, .ref (q 53)), (1, .int b1), (2, .int b2), (3, .long b3), (5, .int v10)] := lv_sub hl [1, 2, 3, 4, 0] rfl
      refine lv_goto (tgt := 31) X.x X.b (dk DX12_isWell_0 41 rfl) (by decide) ?_
      exact (lp_l hF hx) _ _ _ hH (lv_sub hl [0, 1, 2, 3, 4] rfl) K0
    · replace hF := if_f hF c9
      refine lv_aload_n X.x X.b (dk DX12_isWell_0 28 rfl) rfl (lv_at hl 0 rfl) ?_
      refine og_getR (t := 1) OX12 X hq hH 3 (by decide) rfl kF_X12_7 (dk DX12_isWell_0 29 rfl) ?_
      refine lv_iload_n X.x X.b (dk DX12_isWell_0 30 rfl) rfl (lv_at hl 2 rfl) ?_
      obtain ⟨c12, hF⟩ := gd hF
      refine og_lald X hq hH 3 (by decide) rfl (inb_in c12) (dk DX12_isWell_0 31 rfl) ?_
      refine lv_iload X.x X.b (dk DX12_isWell_0 32 rfl) (lv_at hl 4 rfl) ?_
      obtain ⟨x13, e14, hF⟩ := bd hF
      refine mr_ci0 hH ⟨rfl, rfl⟩ (mr_runS (As := [.long (s_t.2.2.2 3 (b2 : Int32).toNatClampNeg), .int b5]) (rest := []) X hH (c_X12_has e14) kM_X12_232 kT_X12_has kN_X12 kC_X12_has hd_X12_has ⟨Nat.le_of_ble_eq_true rfl, Nat.le_of_ble_eq_true rfl⟩ rfl hl.1 (Nat.le_of_ble_eq_true rfl) (dk DX12_isWell_0 33 rfl) ⟨Nat.zero_le _, Nat.zero_le _⟩) (fun r h1 H locs hp hH => ?_)
      obtain ⟨hr1, hr2⟩ := hp; rw [hr1]; rw [hr2] at hH; clear hr1 hr2
      refine lv_if_eq (tgt := 73) X.x X.b (dk DX12_isWell_0 34 rfl) (by decide) (fun c16 => ?_) (fun c16 => ?_)
      · replace hF := if_t hF c16
        obtain ⟨v17, e18⟩ : ∃ y : Int32, y = b5 + 1 := ⟨_, rfl⟩
        replace hF := bnd_e hF e18
        refine lv_iinc (v := v17) (lv' := [(5, .int v17), (0, .ref (q 53)), (1, .int b1), (2, .int b2), (3, .long b3)]) X.x X.b (dk DX12_isWell_0 40 rfl) hl (k := 4) rfl (by rw [e18]; rfl) (by decide) rfl (fun ls hl => ?_)
        replace hl : lv_has ls 6 [(0, .ref (q 53)), (1, .int b1), (2, .int b2), (3, .long b3), (5, .int v17)] := lv_sub hl [1, 2, 3, 4, 0] rfl
        refine lv_goto (tgt := 31) X.x X.b (dk DX12_isWell_0 41 rfl) (by decide) ?_
        exact (lp_l hF hx) _ _ _ hH (lv_sub hl [0, 1, 2, 3, 4] rfl) K0
      · replace hF := if_f hF c16
        refine lv_lload_n X.x X.b (dk DX12_isWell_0 35 rfl) rfl (lv_at hl 3 rfl) ?_
        refine lv_iload X.x X.b (dk DX12_isWell_0 36 rfl) (lv_at hl 4 rfl) ?_
        obtain ⟨x19, e20, hF⟩ := bd hF
        refine mr_cl0 hH ⟨rfl, rfl⟩ (mr_runS (As := [.int b5]) (rest := [.long b3]) X hH (c_X12_bit e20) kM_X12_111 kT_X12_bit kN_X12 kC_X12_bit hd_X12_bit ⟨Nat.le_of_ble_eq_true rfl, Nat.le_of_ble_eq_true rfl⟩ rfl hl.1 (Nat.le_of_ble_eq_true rfl) (dk DX12_isWell_0 37 rfl) ⟨Nat.zero_le _, Nat.zero_le _⟩) (fun r h1 H locs hp hH => ?_)
        obtain ⟨hr1, hr2⟩ := hp; rw [hr1]; rw [hr2] at hH; clear hr1 hr2
        refine lv_lor X.x X.b (dk DX12_isWell_0 38 rfl) ?_
        refine lv_topl (fun v22 e23 => ?_)
        replace hF := bnd_e hF e23
        refine lv_lstore_n (lv' := [(3, .long v22), (0, .ref (q 53)), (1, .int b1), (2, .int b2), (5, .int b5)]) X.x X.b (dk DX12_isWell_0 39 rfl) rfl hl (by decide) rfl (fun ls hl => ?_)
        replace hl : lv_has ls 6 [(0, .ref (q 53)), (1, .int b1), (2, .int b2), (3, .long v22), (5, .int b5)] := lv_sub hl [1, 2, 3, 0, 4] rfl
        obtain ⟨v24, e25⟩ : ∃ y : Int32, y = b5 + 1 := ⟨_, rfl⟩
        replace hF := bnd_e hF e25
        refine lv_iinc (v := v24) (lv' := [(5, .int v24), (0, .ref (q 53)), (1, .int b1), (2, .int b2), (3, .long v22)]) X.x X.b (dk DX12_isWell_0 40 rfl) hl (k := 4) rfl (by rw [e25]; rfl) (by decide) rfl (fun ls hl => ?_)
        replace hl : lv_has ls 6 [(0, .ref (q 53)), (1, .int b1), (2, .int b2), (3, .long v22), (5, .int v24)] := lv_sub hl [1, 2, 3, 4, 0] rfl
        refine lv_goto (tgt := 31) X.x X.b (dk DX12_isWell_0 41 rfl) (by decide) ?_
        exact (lp_l hF hx) _ _ _ hH (lv_sub hl [0, 1, 2, 3, 4] rfl) K0
set_option maxHeartbeats 4000000 in
set_option maxRecDepth 100000 in
theorem w_X12_isWell_2 {p : Program} {l : Launch} {e : Env} {s : State} {m : MethodId} {args : Array Value} {below : List Frame} {meth : Method} {c : Code} {Q : State → Prop} {G : mG} {h : mM} {q : Nat → Nat} (hq : oinj LX12 q) (X : mX G p m c cX12_isWell 6 s args RX12) (s_t : OS) (b1 : Int32) : ∀ (z : Int32) (r : Nat), lpv (f_X12_isWell_2 s_t b1) z = some r → ∀ (H : Heap) (locs : List Loc) (ls : Array Slot), mH G (oset LX12 G q s_t h) s.heap H locs → lv_has ls 6 [(0, .ref (q 53)), (1, .int b1), (2, .int z)] → (r = 0 → ∀ (H : Heap) (locs : List Loc) (ls : Array Slot), mH G (oset LX12 G q s_t h) s.heap H locs → lv_has ls 6 [] → W p l e rm_X12_isWell s m args below meth c H locs 0 0 Q (F0 m 125 ls [])) → (r = 1 → ∀ (H : Heap) (locs : List Loc) (ls : Array Slot), mH G (oset LX12 G q s_t h) s.heap H locs → lv_has ls 6 [(0, .ref (q 53)), (1, .int b1)] → W p l e rm_X12_isWell s m args below meth c H locs 0 0 Q (F0 m 133 ls [])) → W p l e rm_X12_isWell s m args below meth c H locs 0 0 Q (F0 m 2 ls []) := by
  refine lpv_rec ?_
  intro z r x hF hx H locs ls hH hl K0 K1
  obtain ⟨b2, hz⟩ : ∃ y, y = z := ⟨_, rfl⟩
  subst hz
  dsimp only [f_X12_isWell_2] at hF
  refine lv_iload_n X.x X.b (dk DX12_isWell_0 2 rfl) rfl (lv_at hl 2 rfl) ?_
  refine lv_aload_n X.x X.b (dk DX12_isWell_0 3 rfl) rfl (lv_at hl 0 rfl) ?_
  refine og_getI OX12 X hq hH 1 (by decide) rfl kF_X12_250 (dk DX12_isWell_0 4 rfl) ?_
  refine lv_icmp_ge (tgt := 133) X.x X.b (dk DX12_isWell_0 5 rfl) (by decide) (fun c1 => ?_) (fun c1 => ?_)
  · replace hF := if_t hF c1
    have hr9 := lp_r hF hx
    subst hr9
    exact K1 rfl _ _ _ hH (lv_sub hl [0, 1] rfl)
  · replace hF := if_f hF c1
    refine lv_aload_n X.x X.b (dk DX12_isWell_0 6 rfl) rfl (lv_at hl 0 rfl) ?_
    refine og_getR (t := 1) OX12 X hq hH 3 (by decide) rfl kF_X12_7 (dk DX12_isWell_0 7 rfl) ?_
    refine lv_iload_n X.x X.b (dk DX12_isWell_0 8 rfl) rfl (lv_at hl 2 rfl) ?_
    obtain ⟨c2, hF⟩ := gd hF
    refine og_lald X hq hH 3 (by decide) rfl (inb_in c2) (dk DX12_isWell_0 9 rfl) ?_
    refine lv_iload_n X.x X.b (dk DX12_isWell_0 10 rfl) rfl (lv_at hl 1 rfl) ?_
    obtain ⟨x3, e4, hF⟩ := bd hF
    refine mr_ci0 hH ⟨rfl, rfl⟩ (mr_runS (As := [.long (s_t.2.2.2 3 (b2 : Int32).toNatClampNeg), .int b1]) (rest := []) X hH (c_X12_has e4) kM_X12_232 kT_X12_has kN_X12 kC_X12_has hd_X12_has ⟨Nat.le_of_ble_eq_true rfl, Nat.le_of_ble_eq_true rfl⟩ rfl hl.1 (Nat.le_of_ble_eq_true rfl) (dk DX12_isWell_0 11 rfl) ⟨Nat.zero_le _, Nat.zero_le _⟩) (fun r h1 H locs hp hH => ?_)
    obtain ⟨hr1, hr2⟩ := hp; rw [hr1]; rw [hr2] at hH; clear hr1 hr2
    refine lv_if_ne (tgt := 26) X.x X.b (dk DX12_isWell_0 12 rfl) (by decide) (fun c6 => ?_) (fun c6 => ?_)
    · replace hF := if_f hF c6
      refine lv_lconst (v := 0) X.x X.b (dk DX12_isWell_0 14 rfl) (by decide) ?_
      refine lv_lstore_n (lv' := [(3, .long 0), (0, .ref (q 53)), (1, .int b1), (2, .int b2)]) X.x X.b (dk DX12_isWell_0 15 rfl) rfl hl (by decide) rfl (fun ls hl => ?_)
      replace hl : lv_has ls 6 [(0, .ref (q 53)), (1, .int b1), (2, .int b2), (3, .long 0)] := lv_sub hl [1, 2, 3, 0] rfl
      refine lv_iconst (v := 0) X.x X.b (dk DX12_isWell_0 16 rfl) (by decide) ?_
      refine lv_istore (lv' := [(5, .int 0), (0, .ref (q 53)), (1, .int b1), (2, .int b2), (3, .long 0)]) X.x X.b (dk DX12_isWell_0 17 rfl) hl (by decide) rfl (fun ls hl => ?_)
      replace hl : lv_has ls 6 [(0, .ref (q 53)), (1, .int b1), (2, .int b2), (3, .long 0), (5, .int 0)] := lv_sub hl [1, 2, 3, 4, 0] rfl
      obtain ⟨x26, e27, hF⟩ := bd hF
      replace hl : lv_has ls 6 [(0, .ref (q 53)), (1, .int b1), (2, .int b2), (3, .long 0), (5, .int 0)] := lv_sub hl [0, 1, 2, 3, 4] rfl
      refine w_X12_isWell_31 hq X s_t b1 b2 _ _ e27 _ _ _ hH hl (fun H locs ls hH hl => ?_)
      refine lv_aload_n X.x X.b (dk DX12_isWell_0 42 rfl) rfl (lv_at hl 0 rfl) ?_
      refine og_getR (t := 1) OX12 X hq hH 3 (by decide) rfl kF_X12_7 (dk DX12_isWell_0 43 rfl) ?_
      refine lv_iload_n X.x X.b (dk DX12_isWell_0 44 rfl) rfl (lv_at hl 2 rfl) ?_
      refine og_lald X hq hH 3 (by decide) rfl (inb_in c2) (dk DX12_isWell_0 45 rfl) ?_
      obtain ⟨x29, e30, hF⟩ := bd hF
      refine mr_ci0 hH ⟨rfl, rfl⟩ (mr_runS (As := [.long (s_t.2.2.2 3 (b2 : Int32).toNatClampNeg)]) (rest := []) X hH (c_X12_ones e30) kM_X12_283 kT_X12_ones kN_X12 kC_X12_ones hd_X12_ones ⟨Nat.le_of_ble_eq_true rfl, Nat.le_of_ble_eq_true rfl⟩ rfl hl.1 (Nat.le_of_ble_eq_true rfl) (dk DX12_isWell_0 46 rfl) ⟨Nat.zero_le _, Nat.zero_le _⟩) (fun r h1 H locs hp hH => ?_)
      obtain ⟨hr1, hr2⟩ := hp; rw [hr1]; rw [hr2] at hH; clear hr1 hr2
      refine lv_istore (lv' := [(5, .int x29), (0, .ref (q 53)), (1, .int b1), (2, .int b2), (3, .long x26)]) X.x X.b (dk DX12_isWell_0 47 rfl) hl (by decide) rfl (fun ls hl => ?_)
      replace hl : lv_has ls 6 [(0, .ref (q 53)), (1, .int b1), (2, .int b2), (3, .long x26), (5, .int x29)] := lv_sub hl [1, 2, 3, 4, 0] rfl
      refine lv_aload_n X.x X.b (dk DX12_isWell_0 48 rfl) rfl (lv_at hl 0 rfl) ?_
      refine og_getR (t := 1) OX12 X hq hH 3 (by decide) rfl kF_X12_7 (dk DX12_isWell_0 49 rfl) ?_
      refine lv_aload_n X.x X.b (dk DX12_isWell_0 50 rfl) rfl (lv_at hl 0 rfl) ?_
      refine og_getI OX12 X hq hH 1 (by decide) rfl kF_X12_250 (dk DX12_isWell_0 51 rfl) ?_
      refine lv_lload_n X.x X.b (dk DX12_isWell_0 52 rfl) rfl (lv_at hl 3 rfl) ?_
      refine lv_iload X.x X.b (dk DX12_isWell_0 53 rfl) (lv_at hl 4 rfl) ?_
      obtain ⟨x32, e33, hF⟩ := bd hF
      refine mr_ci0 hH ⟨rfl, rfl⟩ (mr_runS (As := [.ref (q 3), .int (s_t.1 1), .long x26, .int x29]) (rest := []) X hH (c_X12_having ((oset_at hq (k := 3) (by decide) rfl).trans (congrArg some (oc_k (t := 3) (n := 64) (by decide) rfl))) e33) kM_X12_368 kT_X12_having kN_X12 kC_X12_having hd_X12_having ⟨Nat.le_of_ble_eq_true rfl, Nat.le_of_ble_eq_true rfl⟩ rfl hl.1 (Nat.le_of_ble_eq_true rfl) (dk DX12_isWell_0 54 rfl) ⟨Nat.zero_le _, Nat.zero_le _⟩) (fun r h1 H locs hp hH => ?_)
      obtain ⟨hr1, hr2⟩ := hp; rw [hr1]; rw [hr2] at hH; clear hr1 hr2
      refine lv_aload_n X.x X.b (dk DX12_isWell_0 55 rfl) rfl (lv_at hl 0 rfl) ?_
      refine og_getR (t := 1) OX12 X hq hH 34 (by decide) rfl kF_X12_60 (dk DX12_isWell_0 56 rfl) ?_
      refine lv_aload_n X.x X.b (dk DX12_isWell_0 57 rfl) rfl (lv_at hl 0 rfl) ?_
      refine og_getI OX12 X hq hH 35 (by decide) rfl kF_X12_365 (dk DX12_isWell_0 58 rfl) ?_
      refine lv_aload_n X.x X.b (dk DX12_isWell_0 59 rfl) rfl (lv_at hl 0 rfl) ?_
      refine lv_lload_n X.x X.b (dk DX12_isWell_1 0 rfl) rfl (lv_at hl 3 rfl) ?_
      obtain ⟨x35, e36, hF⟩ := bd hF
      refine mr_cl0 hH ⟨rfl, rfl⟩ (mr_runV (As := [.long x26]) (rest := [.int (s_t.1 35), .ref (q 34), .int x32]) X hH (c_X12_goneTo hq e36) ((oset_at hq (Nat.le_refl _) ohas_N).trans (congrArg some ocell_N)) OX12.1 kM_X12_372 kI_X12_goneTo kS_X12_goneTo kN_X12 kC_X12_goneTo hd_X12_goneTo ⟨Nat.le_of_ble_eq_true rfl, Nat.le_of_ble_eq_true rfl⟩ rfl hl.1 (Nat.le_of_ble_eq_true rfl) (dk DX12_isWell_1 1 rfl) ⟨Nat.zero_le _, Nat.zero_le _⟩) (fun r h1 H locs hp hH => ?_)
      obtain ⟨hr1, hr2⟩ := hp; rw [hr1]; rw [hr2] at hH; clear hr1 hr2
      refine lv_iload X.x X.b (dk DX12_isWell_1 2 rfl) (lv_at hl 4 rfl) ?_
      obtain ⟨x38, e39, hF⟩ := bd hF
      refine mr_ci0 hH ⟨rfl, rfl⟩ (mr_runS (As := [.ref (q 34), .int (s_t.1 35), .long x35, .int x29]) (rest := [.int x32]) X hH (c_X12_having ((oset_at hq (k := 34) (by decide) rfl).trans (congrArg some (oc_k (t := 3) (n := 64) (by decide) rfl))) e39) kM_X12_368 kT_X12_having kN_X12 kC_X12_having hd_X12_having ⟨Nat.le_of_ble_eq_true rfl, Nat.le_of_ble_eq_true rfl⟩ rfl hl.1 (Nat.le_of_ble_eq_true rfl) (dk DX12_isWell_1 3 rfl) ⟨Nat.zero_le _, Nat.zero_le _⟩) (fun r h1 H locs hp hH => ?_)
      obtain ⟨hr1, hr2⟩ := hp; rw [hr1]; rw [hr2] at hH; clear hr1 hr2
      refine lv_icmp_eq (tgt := 127) X.x X.b (dk DX12_isWell_1 4 rfl) (by decide) (fun c41 => ?_) (fun c41 => ?_)
      · replace hF := if_t hF c41
        obtain ⟨v42, e43⟩ : ∃ y : Int32, y = b2 + 1 := ⟨_, rfl⟩
        replace hF := bnd_e hF e43
        refine lv_iinc (v := v42) (lv' := [(2, .int v42), (0, .ref (q 53)), (1, .int b1), (3, .long x26), (5, .int x29)]) X.x X.b (dk DX12_isWell_1 7 rfl) hl (k := 2) rfl (by rw [e43]; rfl) (by decide) rfl (fun ls hl => ?_)
        replace hl : lv_has ls 6 [(0, .ref (q 53)), (1, .int b1), (2, .int v42)] := lv_sub hl [1, 2, 0] rfl
        refine lv_goto (tgt := 2) X.x X.b (dk DX12_isWell_1 8 rfl) (by decide) ?_
        exact (lp_l hF hx) _ _ _ hH (lv_sub hl [0, 1, 2] rfl) K0 K1
      · replace hF := if_f hF c41
        have hr9 := lp_r hF hx
        subst hr9
        exact K0 rfl _ _ _ hH (lv_sub hl [] rfl)
    · replace hF := if_t hF c6
      refine lv_goto (tgt := 127) X.x X.b (dk DX12_isWell_0 13 rfl) (by decide) ?_
      obtain ⟨v44, e45⟩ : ∃ y : Int32, y = b2 + 1 := ⟨_, rfl⟩
      replace hF := bnd_e hF e45
      refine lv_iinc (v := v44) (lv' := [(2, .int v44), (0, .ref (q 53)), (1, .int b1)]) X.x X.b (dk DX12_isWell_1 7 rfl) hl (k := 2) rfl (by rw [e45]; rfl) (by decide) rfl (fun ls hl => ?_)
      replace hl : lv_has ls 6 [(0, .ref (q 53)), (1, .int b1), (2, .int v44)] := lv_sub hl [1, 2, 0] rfl
      refine lv_goto (tgt := 2) X.x X.b (dk DX12_isWell_1 8 rfl) (by decide) ?_
      exact (lp_l hF hx) _ _ _ hH (lv_sub hl [0, 1, 2] rfl) K0 K1
set_option maxHeartbeats 4000000 in
set_option maxRecDepth 100000 in
theorem w_X12_isWell_135 {p : Program} {l : Launch} {e : Env} {s : State} {m : MethodId} {args : Array Value} {below : List Frame} {meth : Method} {c : Code} {Q : State → Prop} {G : mG} {h : mM} {q : Nat → Nat} (hq : oinj LX12 q) (X : mX G p m c cX12_isWell 6 s args RX12) (s_t : OS) (b1 : Int32) : ∀ (z : Int32) (r : Nat), lpv (f_X12_isWell_135 s_t b1) z = some r → ∀ (H : Heap) (locs : List Loc) (ls : Array Slot), mH G (oset LX12 G q s_t h) s.heap H locs → lv_has ls 6 [(0, .ref (q 53)), (1, .int b1), (2, .int z)] → (r = 0 → ∀ (H : Heap) (locs : List Loc) (ls : Array Slot), mH G (oset LX12 G q s_t h) s.heap H locs → lv_has ls 6 [] → W p l e rm_X12_isWell s m args below meth c H locs 0 0 Q (F0 m 194 ls [])) → (r = 1 → ∀ (H : Heap) (locs : List Loc) (ls : Array Slot), mH G (oset LX12 G q s_t h) s.heap H locs → lv_has ls 6 [(0, .ref (q 53)), (1, .int b1)] → W p l e rm_X12_isWell s m args below meth c H locs 0 0 Q (F0 m 202 ls [])) → W p l e rm_X12_isWell s m args below meth c H locs 0 0 Q (F0 m 135 ls []) := by
  refine lpv_rec ?_
  intro z r x hF hx H locs ls hH hl K0 K1
  obtain ⟨b2, hz⟩ : ∃ y, y = z := ⟨_, rfl⟩
  subst hz
  dsimp only [f_X12_isWell_135] at hF
  refine lv_iload_n X.x X.b (dk DX12_isWell_1 11 rfl) rfl (lv_at hl 2 rfl) ?_
  refine lv_aload_n X.x X.b (dk DX12_isWell_1 12 rfl) rfl (lv_at hl 0 rfl) ?_
  refine og_getI OX12 X hq hH 35 (by decide) rfl kF_X12_365 (dk DX12_isWell_1 13 rfl) ?_
  refine lv_icmp_ge (tgt := 202) X.x X.b (dk DX12_isWell_1 14 rfl) (by decide) (fun c49 => ?_) (fun c49 => ?_)
  · replace hF := if_t hF c49
    have hr9 := lp_r hF hx
    subst hr9
    exact K1 rfl _ _ _ hH (lv_sub hl [0, 1] rfl)
  · replace hF := if_f hF c49
    refine lv_aload_n X.x X.b (dk DX12_isWell_1 15 rfl) rfl (lv_at hl 0 rfl) ?_
    refine og_getR (t := 1) OX12 X hq hH 34 (by decide) rfl kF_X12_60 (dk DX12_isWell_1 16 rfl) ?_
    refine lv_iload_n X.x X.b (dk DX12_isWell_1 17 rfl) rfl (lv_at hl 2 rfl) ?_
    obtain ⟨c50, hF⟩ := gd hF
    refine og_lald X hq hH 34 (by decide) rfl (inb_in c50) (dk DX12_isWell_1 18 rfl) ?_
    refine lv_aload_n X.x X.b (dk DX12_isWell_1 19 rfl) rfl (lv_at hl 0 rfl) ?_
    refine og_getR (t := 0) OX12 X hq hH 36 (by decide) rfl kF_X12_63 (dk DX12_isWell_1 20 rfl) ?_
    refine lv_iload_n X.x X.b (dk DX12_isWell_1 21 rfl) rfl (lv_at hl 1 rfl) ?_
    obtain ⟨c51, hF⟩ := gd hF
    refine og_iald X hq hH 36 (by decide) rfl (inb_in c51) (dk DX12_isWell_1 22 rfl) ?_
    obtain ⟨x52, e53, hF⟩ := bd hF
    refine mr_ci0 hH ⟨rfl, rfl⟩ (mr_runS (As := [.long (s_t.2.2.2 34 (b2 : Int32).toNatClampNeg), .int (s_t.2.2.1 36 (b1 : Int32).toNatClampNeg)]) (rest := []) X hH (c_X12_has e53) kM_X12_232 kT_X12_has kN_X12 kC_X12_has hd_X12_has ⟨Nat.le_of_ble_eq_true rfl, Nat.le_of_ble_eq_true rfl⟩ rfl hl.1 (Nat.le_of_ble_eq_true rfl) (dk DX12_isWell_1 23 rfl) ⟨Nat.zero_le _, Nat.zero_le _⟩) (fun r h1 H locs hp hH => ?_)
    obtain ⟨hr1, hr2⟩ := hp; rw [hr1]; rw [hr2] at hH; clear hr1 hr2
    refine lv_if_eq (tgt := 196) X.x X.b (dk DX12_isWell_1 24 rfl) (by decide) (fun c55 => ?_) (fun c55 => ?_)
    · replace hF := if_t hF c55
      obtain ⟨v56, e57⟩ : ∃ y : Int32, y = b2 + 1 := ⟨_, rfl⟩
      replace hF := bnd_e hF e57
      refine lv_iinc (v := v56) (lv' := [(2, .int v56), (0, .ref (q 53)), (1, .int b1)]) X.x X.b (dk DX12_isWell_1 46 rfl) hl (k := 2) rfl (by rw [e57]; rfl) (by decide) rfl (fun ls hl => ?_)
      replace hl : lv_has ls 6 [(0, .ref (q 53)), (1, .int b1), (2, .int v56)] := lv_sub hl [1, 2, 0] rfl
      refine lv_goto (tgt := 135) X.x X.b (dk DX12_isWell_1 47 rfl) (by decide) ?_
      exact (lp_l hF hx) _ _ _ hH (lv_sub hl [0, 1, 2] rfl) K0 K1
    · replace hF := if_f hF c55
      refine lv_aload_n X.x X.b (dk DX12_isWell_1 25 rfl) rfl (lv_at hl 0 rfl) ?_
      refine og_getR (t := 1) OX12 X hq hH 34 (by decide) rfl kF_X12_60 (dk DX12_isWell_1 26 rfl) ?_
      refine lv_iload_n X.x X.b (dk DX12_isWell_1 27 rfl) rfl (lv_at hl 2 rfl) ?_
      refine og_lald X hq hH 34 (by decide) rfl (inb_in c50) (dk DX12_isWell_1 28 rfl) ?_
      refine lv_aload_n X.x X.b (dk DX12_isWell_1 29 rfl) rfl (lv_at hl 0 rfl) ?_
      refine og_getJ OX12 X hq hH 37 (by decide) rfl kF_X12_375 (dk DX12_isWell_1 30 rfl) ?_
      refine lv_ldc2 (v := (-1)) X.x X.b X.ow (X.ts _ kK_X12_109) (dk DX12_isWell_1 31 rfl) ?_
      refine lv_lxor X.x X.b (dk DX12_isWell_1 32 rfl) ?_
      refine lv_land X.x X.b (dk DX12_isWell_1 33 rfl) ?_
      refine lv_lconst (v := 0) X.x X.b (dk DX12_isWell_1 34 rfl) (by decide) ?_
      refine W.lcmp X.x X.b (dk DX12_isWell_1 35 rfl) ?_
      refine lv_if_ne (tgt := 196) X.x X.b (dk DX12_isWell_1 36 rfl) (by decide) (fun c58 => ?_) (fun c58 => ?_)
      · replace hF := if_f hF c58
        obtain ⟨v59, e60⟩ : ∃ y : Int32, y = b2 + 1 := ⟨_, rfl⟩
        replace hF := bnd_e hF e60
        refine lv_iinc (v := v59) (lv' := [(2, .int v59), (0, .ref (q 53)), (1, .int b1)]) X.x X.b (dk DX12_isWell_1 46 rfl) hl (k := 2) rfl (by rw [e60]; rfl) (by decide) rfl (fun ls hl => ?_)
        replace hl : lv_has ls 6 [(0, .ref (q 53)), (1, .int b1), (2, .int v59)] := lv_sub hl [1, 2, 0] rfl
        refine lv_goto (tgt := 135) X.x X.b (dk DX12_isWell_1 47 rfl) (by decide) ?_
        exact (lp_l hF hx) _ _ _ hH (lv_sub hl [0, 1, 2] rfl) K0 K1
      · replace hF := if_t hF c58
        refine lv_aload_n X.x X.b (dk DX12_isWell_1 37 rfl) rfl (lv_at hl 0 rfl) ?_
        refine lv_aload_n X.x X.b (dk DX12_isWell_1 38 rfl) rfl (lv_at hl 0 rfl) ?_
        refine og_getR (t := 1) OX12 X hq hH 34 (by decide) rfl kF_X12_60 (dk DX12_isWell_1 39 rfl) ?_
        refine lv_iload_n X.x X.b (dk DX12_isWell_1 40 rfl) rfl (lv_at hl 2 rfl) ?_
        refine og_lald X hq hH 34 (by decide) rfl (inb_in c50) (dk DX12_isWell_1 41 rfl) ?_
        obtain ⟨x61, e62, hF⟩ := bd hF
        refine mr_ci0 hH ⟨rfl, rfl⟩ (mr_runV (As := [.long (s_t.2.2.2 34 (b2 : Int32).toNatClampNeg)]) (rest := []) X hH (c_X12_isFrom hq e62) ((oset_at hq (Nat.le_refl _) ohas_N).trans (congrArg some ocell_N)) OX12.1 kM_X12_378 kI_X12_isFrom kS_X12_isFrom kN_X12 kC_X12_isFrom hd_X12_isFrom ⟨Nat.le_of_ble_eq_true rfl, Nat.le_of_ble_eq_true rfl⟩ rfl hl.1 (Nat.le_of_ble_eq_true rfl) (dk DX12_isWell_1 42 rfl) ⟨Nat.zero_le _, Nat.zero_le _⟩) (fun r h1 H locs hp hH => ?_)
        obtain ⟨hr1, hr2⟩ := hp; rw [hr1]; rw [hr2] at hH; clear hr1 hr2
        refine lv_if_ne (tgt := 196) X.x X.b (dk DX12_isWell_1 43 rfl) (by decide) (fun c64 => ?_) (fun c64 => ?_)
        · replace hF := if_f hF c64
          obtain ⟨v65, e66⟩ : ∃ y : Int32, y = b2 + 1 := ⟨_, rfl⟩
          replace hF := bnd_e hF e66
          refine lv_iinc (v := v65) (lv' := [(2, .int v65), (0, .ref (q 53)), (1, .int b1)]) X.x X.b (dk DX12_isWell_1 46 rfl) hl (k := 2) rfl (by rw [e66]; rfl) (by decide) rfl (fun ls hl => ?_)
          replace hl : lv_has ls 6 [(0, .ref (q 53)), (1, .int b1), (2, .int v65)] := lv_sub hl [1, 2, 0] rfl
          refine lv_goto (tgt := 135) X.x X.b (dk DX12_isWell_1 47 rfl) (by decide) ?_
          exact (lp_l hF hx) _ _ _ hH (lv_sub hl [0, 1, 2] rfl) K0 K1
        · replace hF := if_t hF c64
          have hr9 := lp_r hF hx
          subst hr9
          exact K0 rfl _ _ _ hH (lv_sub hl [] rfl)
set_option maxHeartbeats 4000000 in
set_option maxRecDepth 100000 in
theorem c_X12_isWell {l : Launch} {G : mG} {h : mM} {q : Nat → Nat} (hq : oinj LX12 q) {st : OS} {a0 : Int32} {x : Int32} (hF : f_X12_isWell st a0 = some x) : cQ l G yX12_isWell cX12_isWell 6 (some FieldType.boolean) rm_X12_isWell [.ref (q 53), .int a0] (oset LX12 G q st h) (mQi G (fun r h1 => r = x ∧ h1 = oset LX12 G q st h)) := by
  refine mp_of (by decide +kernel) (Nat.le_of_ble_eq_true rfl) ?_
  intro p e s m below meth c X hr hlk hH hname ls hl
  dsimp only [f_X12_isWell] at hF
  replace hl : lv_has ls 6 [(0, .ref (q 53)), (1, .int a0)] := hl
  refine lv_iconst (v := 0) X.x X.b (dk DX12_isWell_0 0 rfl) (by decide) ?_
  refine lv_istore_n (lv' := [(2, .int 0), (0, .ref (q 53)), (1, .int a0)]) X.x X.b (dk DX12_isWell_0 1 rfl) rfl hl (by decide) rfl (fun ls hl => ?_)
  replace hl : lv_has ls 6 [(0, .ref (q 53)), (1, .int a0), (2, .int 0)] := lv_sub hl [1, 2, 0] rfl
  obtain ⟨x46, e47, hF⟩ := bd hF
  replace hl : lv_has ls 6 [(0, .ref (q 53)), (1, .int a0), (2, .int 0)] := lv_sub hl [0, 1, 2] rfl
  refine w_X12_isWell_2 hq X st a0 _ _ e47 _ _ _ hH hl (fun hk H locs ls hH hl => ?_) (fun hk H locs ls hH hl => ?_)
  · subst hk
    replace hF := if_t hF rfl
    refine lv_iconst (v := 0) X.x X.b (dk DX12_isWell_1 5 rfl) (by decide) ?_
    cases sm hF
    exact mr_zret X hr hlk hH rfl ⟨rfl, rfl⟩ (dk DX12_isWell_1 6 rfl)
  · subst hk
    replace hF := if_f hF (by decide)
    refine lv_iconst (v := 0) X.x X.b (dk DX12_isWell_1 9 rfl) (by decide) ?_
    refine lv_istore_n (lv' := [(2, .int 0), (0, .ref (q 53)), (1, .int a0)]) X.x X.b (dk DX12_isWell_1 10 rfl) rfl hl (by decide) rfl (fun ls hl => ?_)
    replace hl : lv_has ls 6 [(0, .ref (q 53)), (1, .int a0), (2, .int 0)] := lv_sub hl [1, 2, 0] rfl
    obtain ⟨x67, e68, hF⟩ := bd hF
    replace hl : lv_has ls 6 [(0, .ref (q 53)), (1, .int a0), (2, .int 0)] := lv_sub hl [0, 1, 2] rfl
    refine w_X12_isWell_135 hq X st a0 _ _ e68 _ _ _ hH hl (fun hk H locs ls hH hl => ?_) (fun hk H locs ls hH hl => ?_)
    · subst hk
      replace hF := if_t hF rfl
      refine lv_iconst (v := 0) X.x X.b (dk DX12_isWell_1 44 rfl) (by decide) ?_
      cases sm hF
      exact mr_zret X hr hlk hH rfl ⟨rfl, rfl⟩ (dk DX12_isWell_1 45 rfl)
    · subst hk
      replace hF := if_f hF (by decide)
      refine lv_aload_n X.x X.b (dk DX12_isWell_1 48 rfl) rfl (lv_at hl 0 rfl) ?_
      refine lv_iload_n X.x X.b (dk DX12_isWell_1 49 rfl) rfl (lv_at hl 1 rfl) ?_
      obtain ⟨x70, e71, hF⟩ := bd hF
      refine mr_cl0 hH ⟨rfl, rfl⟩ (mr_runV (As := [.int a0]) (rest := []) X hH (c_X12_throughOf hq e71) ((oset_at hq (Nat.le_refl _) ohas_N).trans (congrArg some ocell_N)) OX12.1 kM_X12_269 kI_X12_throughOf kS_X12_throughOf kN_X12 kC_X12_throughOf hd_X12_throughOf ⟨Nat.le_of_ble_eq_true rfl, Nat.le_of_ble_eq_true rfl⟩ rfl hl.1 (Nat.le_of_ble_eq_true rfl) (dk DX12_isWell_1 50 rfl) ⟨Nat.zero_le _, Nat.zero_le _⟩) (fun r h1 H locs hp hH => ?_)
      obtain ⟨hr1, hr2⟩ := hp; rw [hr1]; rw [hr2] at hH; clear hr1 hr2
      obtain ⟨x73, e74, hF⟩ := bd hF
      refine mr_ci0 hH ⟨rfl, rfl⟩ (mr_runS (As := [.long x70]) (rest := []) X hH (c_X12_ones e74) kM_X12_283 kT_X12_ones kN_X12 kC_X12_ones hd_X12_ones ⟨Nat.le_of_ble_eq_true rfl, Nat.le_of_ble_eq_true rfl⟩ rfl hl.1 (Nat.le_of_ble_eq_true rfl) (dk DX12_isWell_1 51 rfl) ⟨Nat.zero_le _, Nat.zero_le _⟩) (fun r h1 H locs hp hH => ?_)
      obtain ⟨hr1, hr2⟩ := hp; rw [hr1]; rw [hr2] at hH; clear hr1 hr2
      refine lv_aload_n X.x X.b (dk DX12_isWell_1 52 rfl) rfl (lv_at hl 0 rfl) ?_
      refine lv_aload_n X.x X.b (dk DX12_isWell_1 53 rfl) rfl (lv_at hl 0 rfl) ?_
      refine og_getR (t := 0) OX12 X hq hH 36 (by decide) rfl kF_X12_63 (dk DX12_isWell_1 54 rfl) ?_
      refine lv_iload_n X.x X.b (dk DX12_isWell_1 55 rfl) rfl (lv_at hl 1 rfl) ?_
      obtain ⟨c76, hF⟩ := gd hF
      refine og_iald X hq hH 36 (by decide) rfl (inb_in c76) (dk DX12_isWell_1 56 rfl) ?_
      obtain ⟨x77, e78, hF⟩ := bd hF
      refine mr_ci0 hH ⟨rfl, rfl⟩ (mr_runV (As := [.int (st.2.2.1 36 (a0 : Int32).toNatClampNeg)]) (rest := [.int x73]) X hH (c_X12_throughOther hq e78) ((oset_at hq (Nat.le_refl _) ohas_N).trans (congrArg some ocell_N)) OX12.1 kM_X12_381 kI_X12_throughOther kS_X12_throughOther kN_X12 kC_X12_throughOther hd_X12_throughOther ⟨Nat.le_of_ble_eq_true rfl, Nat.le_of_ble_eq_true rfl⟩ rfl hl.1 (Nat.le_of_ble_eq_true rfl) (dk DX12_isWell_1 57 rfl) ⟨Nat.zero_le _, Nat.zero_le _⟩) (fun r h1 H locs hp hH => ?_)
      obtain ⟨hr1, hr2⟩ := hp; rw [hr1]; rw [hr2] at hH; clear hr1 hr2
      refine lv_icmp_ne (tgt := 227) X.x X.b (dk DX12_isWell_1 58 rfl) (by decide) (fun c80 => ?_) (fun c80 => ?_)
      · replace hF := if_f hF c80
        refine lv_iconst (v := 0) X.x X.b (dk DX12_isWell_2 1 rfl) (by decide) ?_
        cases sm hF
        exact mr_zret X hr hlk hH rfl ⟨rfl, rfl⟩ (dk DX12_isWell_2 2 rfl)
      · replace hF := if_t hF c80
        refine lv_iconst (v := 1) X.x X.b (dk DX12_isWell_1 59 rfl) (by decide) ?_
        refine lv_goto (tgt := 228) X.x X.b (dk DX12_isWell_2 0 rfl) (by decide) ?_
        cases sm hF
        exact mr_zret X hr hlk hH rfl ⟨rfl, rfl⟩ (dk DX12_isWell_2 2 rfl)
-- X12_goesWholly
abbrev rm_X12_goesWholly : Room := { frames := 2, cells := 0, slots := 0, locals := 47 }
theorem hd_X12_goesWholly : mHd yX12_goesWholly 0 := ⟨by decide +kernel, by decide +kernel, by decide +kernel⟩
theorem DX12_goesWholly_0 : ∀ t ∈ ([(0, .iconst 0, 1), (1, .istore_n 1, 1), (2, .iload_n 1, 1), (3, .aload_n 0, 1), (4, .getfield 250, 3), (7, .if_icmp .ge 52, 3), (10, .aload_n 0, 1), (11, .getfield 7, 3), (14, .aload_n 0, 1), (15, .getfield 250, 3), (18, .aload_n 0, 1), (19, .getfield 7, 3), (22, .iload_n 1, 1), (23, .laload, 1), (24, .invokestatic 384, 3), (27, .aload_n 0, 1), (28, .getfield 60, 3), (31, .aload_n 0, 1), (32, .getfield 365, 3), (35, .aload_n 0, 1), (36, .aload_n 0, 1), (37, .getfield 7, 3), (40, .iload_n 1, 1), (41, .laload, 1), (42, .invokevirtual 372, 3), (45, .invokestatic 384, 3), (48, .if_icmp .eq 5, 3), (51, .iconst 0, 1), (52, .ireturn, 1), (53, .iinc 1 1, 3), (56, .goto (-54), 3), (59, .aload_n 0, 1), (60, .getfield 250, 3), (63, .aload_n 0, 1), (64, .getfield 365, 3), (67, .if_icmp .ne 7, 3), (70, .iconst 1, 1), (71, .goto 4, 3), (74, .iconst 0, 1), (75, .ireturn, 1)] : List (Nat × Instr × Nat)), decode cX12_goesWholly t.1 = .ok (t.2.1, t.2.2) := by decide +kernel
noncomputable def f_X12_goesWholly_2 (s_t : OS) : Int32 → Option ((Int32) ⊕ (Nat)) := fun b1 => (if (s_t.1 1) ≤ b1 then some (.inr 1) else if inb b1 64 = true then (f_X12_many 64 ((s_t.2.2.2 3)) (s_t.1 1) (s_t.2.2.2 3 (b1 : Int32).toNatClampNeg)).bind (fun x3 => (f_X12_goneTo s_t (s_t.2.2.2 3 (b1 : Int32).toNatClampNeg)).bind (fun x6 => (f_X12_many 64 ((s_t.2.2.2 34)) (s_t.1 35) x6).bind (fun x9 => (if x3 = x9 then bnd (b1 + 1 : Int32) (fun v13 => some (.inl v13)) else some (.inr 0))))) else none)
noncomputable def f_X12_goesWholly (st : OS) : Option (Int32) := (lpv (f_X12_goesWholly_2 st) 0).bind (fun x15 => (if x15 = 0 then some 0 else (if (st.1 1) = (st.1 35) then some 1 else some 0)))
set_option maxHeartbeats 4000000 in
set_option maxRecDepth 100000 in
theorem w_X12_goesWholly_2 {p : Program} {l : Launch} {e : Env} {s : State} {m : MethodId} {args : Array Value} {below : List Frame} {meth : Method} {c : Code} {Q : State → Prop} {G : mG} {h : mM} {q : Nat → Nat} (hq : oinj LX12 q) (X : mX G p m c cX12_goesWholly 2 s args RX12) (s_t : OS) : ∀ (z : Int32) (r : Nat), lpv (f_X12_goesWholly_2 s_t) z = some r → ∀ (H : Heap) (locs : List Loc) (ls : Array Slot), mH G (oset LX12 G q s_t h) s.heap H locs → lv_has ls 2 [(0, .ref (q 53)), (1, .int z)] → (r = 0 → ∀ (H : Heap) (locs : List Loc) (ls : Array Slot), mH G (oset LX12 G q s_t h) s.heap H locs → lv_has ls 2 [] → W p l e rm_X12_goesWholly s m args below meth c H locs 0 0 Q (F0 m 51 ls [])) → (r = 1 → ∀ (H : Heap) (locs : List Loc) (ls : Array Slot), mH G (oset LX12 G q s_t h) s.heap H locs → lv_has ls 2 [(0, .ref (q 53))] → W p l e rm_X12_goesWholly s m args below meth c H locs 0 0 Q (F0 m 59 ls [])) → W p l e rm_X12_goesWholly s m args below meth c H locs 0 0 Q (F0 m 2 ls []) := by
  refine lpv_rec ?_
  intro z r x hF hx H locs ls hH hl K0 K1
  obtain ⟨b1, hz⟩ : ∃ y, y = z := ⟨_, rfl⟩
  subst hz
  dsimp only [f_X12_goesWholly_2] at hF
  refine lv_iload_n X.x X.b (dk DX12_goesWholly_0 2 rfl) rfl (lv_at hl 1 rfl) ?_
  refine lv_aload_n X.x X.b (dk DX12_goesWholly_0 3 rfl) rfl (lv_at hl 0 rfl) ?_
  refine og_getI OX12 X hq hH 1 (by decide) rfl kF_X12_250 (dk DX12_goesWholly_0 4 rfl) ?_
  refine lv_icmp_ge (tgt := 59) X.x X.b (dk DX12_goesWholly_0 5 rfl) (by decide) (fun c1 => ?_) (fun c1 => ?_)
  · replace hF := if_t hF c1
    have hr9 := lp_r hF hx
    subst hr9
    exact K1 rfl _ _ _ hH (lv_sub hl [0] rfl)
  · replace hF := if_f hF c1
    refine lv_aload_n X.x X.b (dk DX12_goesWholly_0 6 rfl) rfl (lv_at hl 0 rfl) ?_
    refine og_getR (t := 1) OX12 X hq hH 3 (by decide) rfl kF_X12_7 (dk DX12_goesWholly_0 7 rfl) ?_
    refine lv_aload_n X.x X.b (dk DX12_goesWholly_0 8 rfl) rfl (lv_at hl 0 rfl) ?_
    refine og_getI OX12 X hq hH 1 (by decide) rfl kF_X12_250 (dk DX12_goesWholly_0 9 rfl) ?_
    refine lv_aload_n X.x X.b (dk DX12_goesWholly_0 10 rfl) rfl (lv_at hl 0 rfl) ?_
    refine og_getR (t := 1) OX12 X hq hH 3 (by decide) rfl kF_X12_7 (dk DX12_goesWholly_0 11 rfl) ?_
    refine lv_iload_n X.x X.b (dk DX12_goesWholly_0 12 rfl) rfl (lv_at hl 1 rfl) ?_
    obtain ⟨c2, hF⟩ := gd hF
    refine og_lald X hq hH 3 (by decide) rfl (inb_in c2) (dk DX12_goesWholly_0 13 rfl) ?_
    obtain ⟨x3, e4, hF⟩ := bd hF
    refine mr_ci0 hH ⟨rfl, rfl⟩ (mr_runS (As := [.ref (q 3), .int (s_t.1 1), .long (s_t.2.2.2 3 (b1 : Int32).toNatClampNeg)]) (rest := []) X hH (c_X12_many ((oset_at hq (k := 3) (by decide) rfl).trans (congrArg some (oc_k (t := 3) (n := 64) (by decide) rfl))) e4) kM_X12_384 kT_X12_many kN_X12 kC_X12_many hd_X12_many ⟨Nat.le_of_ble_eq_true rfl, Nat.le_of_ble_eq_true rfl⟩ rfl hl.1 (Nat.le_of_ble_eq_true rfl) (dk DX12_goesWholly_0 14 rfl) ⟨Nat.zero_le _, Nat.zero_le _⟩) (fun r h1 H locs hp hH => ?_)
    obtain ⟨hr1, hr2⟩ := hp; rw [hr1]; rw [hr2] at hH; clear hr1 hr2
    refine lv_aload_n X.x X.b (dk DX12_goesWholly_0 15 rfl) rfl (lv_at hl 0 rfl) ?_
    refine og_getR (t := 1) OX12 X hq hH 34 (by decide) rfl kF_X12_60 (dk DX12_goesWholly_0 16 rfl) ?_
    refine lv_aload_n X.x X.b (dk DX12_goesWholly_0 17 rfl) rfl (lv_at hl 0 rfl) ?_
    refine og_getI OX12 X hq hH 35 (by decide) rfl kF_X12_365 (dk DX12_goesWholly_0 18 rfl) ?_
    refine lv_aload_n X.x X.b (dk DX12_goesWholly_0 19 rfl) rfl (lv_at hl 0 rfl) ?_
    refine lv_aload_n X.x X.b (dk DX12_goesWholly_0 20 rfl) rfl (lv_at hl 0 rfl) ?_
    refine og_getR (t := 1) OX12 X hq hH 3 (by decide) rfl kF_X12_7 (dk DX12_goesWholly_0 21 rfl) ?_
    refine lv_iload_n X.x X.b (dk DX12_goesWholly_0 22 rfl) rfl (lv_at hl 1 rfl) ?_
    refine og_lald X hq hH 3 (by decide) rfl (inb_in c2) (dk DX12_goesWholly_0 23 rfl) ?_
    obtain ⟨x6, e7, hF⟩ := bd hF
    refine mr_cl0 hH ⟨rfl, rfl⟩ (mr_runV (As := [.long (s_t.2.2.2 3 (b1 : Int32).toNatClampNeg)]) (rest := [.int (s_t.1 35), .ref (q 34), .int x3]) X hH (c_X12_goneTo hq e7) ((oset_at hq (Nat.le_refl _) ohas_N).trans (congrArg some ocell_N)) OX12.1 kM_X12_372 kI_X12_goneTo kS_X12_goneTo kN_X12 kC_X12_goneTo hd_X12_goneTo ⟨Nat.le_of_ble_eq_true rfl, Nat.le_of_ble_eq_true rfl⟩ rfl hl.1 (Nat.le_of_ble_eq_true rfl) (dk DX12_goesWholly_0 24 rfl) ⟨Nat.zero_le _, Nat.zero_le _⟩) (fun r h1 H locs hp hH => ?_)
    obtain ⟨hr1, hr2⟩ := hp; rw [hr1]; rw [hr2] at hH; clear hr1 hr2
    obtain ⟨x9, e10, hF⟩ := bd hF
    refine mr_ci0 hH ⟨rfl, rfl⟩ (mr_runS (As := [.ref (q 34), .int (s_t.1 35), .long x6]) (rest := [.int x3]) X hH (c_X12_many ((oset_at hq (k := 34) (by decide) rfl).trans (congrArg some (oc_k (t := 3) (n := 64) (by decide) rfl))) e10) kM_X12_384 kT_X12_many kN_X12 kC_X12_many hd_X12_many ⟨Nat.le_of_ble_eq_true rfl, Nat.le_of_ble_eq_true rfl⟩ rfl hl.1 (Nat.le_of_ble_eq_true rfl) (dk DX12_goesWholly_0 25 rfl) ⟨Nat.zero_le _, Nat.zero_le _⟩) (fun r h1 H locs hp hH => ?_)
    obtain ⟨hr1, hr2⟩ := hp; rw [hr1]; rw [hr2] at hH; clear hr1 hr2
    refine lv_icmp_eq (tgt := 53) X.x X.b (dk DX12_goesWholly_0 26 rfl) (by decide) (fun c12 => ?_) (fun c12 => ?_)
    · replace hF := if_t hF c12
      obtain ⟨v13, e14⟩ : ∃ y : Int32, y = b1 + 1 := ⟨_, rfl⟩
      replace hF := bnd_e hF e14
      refine lv_iinc (v := v13) (lv' := [(1, .int v13), (0, .ref (q 53))]) X.x X.b (dk DX12_goesWholly_0 29 rfl) hl (k := 1) rfl (by rw [e14]; rfl) (by decide) rfl (fun ls hl => ?_)
      replace hl : lv_has ls 2 [(0, .ref (q 53)), (1, .int v13)] := lv_sub hl [1, 0] rfl
      refine lv_goto (tgt := 2) X.x X.b (dk DX12_goesWholly_0 30 rfl) (by decide) ?_
      exact (lp_l hF hx) _ _ _ hH (lv_sub hl [0, 1] rfl) K0 K1
    · replace hF := if_f hF c12
      have hr9 := lp_r hF hx
      subst hr9
      exact K0 rfl _ _ _ hH (lv_sub hl [] rfl)
set_option maxHeartbeats 4000000 in
set_option maxRecDepth 100000 in
theorem c_X12_goesWholly {l : Launch} {G : mG} {h : mM} {q : Nat → Nat} (hq : oinj LX12 q) {st : OS} {x : Int32} (hF : f_X12_goesWholly st = some x) : cQ l G yX12_goesWholly cX12_goesWholly 2 (some FieldType.boolean) rm_X12_goesWholly [.ref (q 53)] (oset LX12 G q st h) (mQi G (fun r h1 => r = x ∧ h1 = oset LX12 G q st h)) := by
  refine mp_of (by decide +kernel) (Nat.le_of_ble_eq_true rfl) ?_
  intro p e s m below meth c X hr hlk hH hname ls hl
  dsimp only [f_X12_goesWholly] at hF
  replace hl : lv_has ls 2 [(0, .ref (q 53))] := hl
  refine lv_iconst (v := 0) X.x X.b (dk DX12_goesWholly_0 0 rfl) (by decide) ?_
  refine lv_istore_n (lv' := [(1, .int 0), (0, .ref (q 53))]) X.x X.b (dk DX12_goesWholly_0 1 rfl) rfl hl (by decide) rfl (fun ls hl => ?_)
  replace hl : lv_has ls 2 [(0, .ref (q 53)), (1, .int 0)] := lv_sub hl [1, 0] rfl
  obtain ⟨x15, e16, hF⟩ := bd hF
  replace hl : lv_has ls 2 [(0, .ref (q 53)), (1, .int 0)] := lv_sub hl [0, 1] rfl
  refine w_X12_goesWholly_2 hq X st _ _ e16 _ _ _ hH hl (fun hk H locs ls hH hl => ?_) (fun hk H locs ls hH hl => ?_)
  · subst hk
    replace hF := if_t hF rfl
    refine lv_iconst (v := 0) X.x X.b (dk DX12_goesWholly_0 27 rfl) (by decide) ?_
    cases sm hF
    exact mr_zret X hr hlk hH rfl ⟨rfl, rfl⟩ (dk DX12_goesWholly_0 28 rfl)
  · subst hk
    replace hF := if_f hF (by decide)
    refine lv_aload_n X.x X.b (dk DX12_goesWholly_0 31 rfl) rfl (lv_at hl 0 rfl) ?_
    refine og_getI OX12 X hq hH 1 (by decide) rfl kF_X12_250 (dk DX12_goesWholly_0 32 rfl) ?_
    refine lv_aload_n X.x X.b (dk DX12_goesWholly_0 33 rfl) rfl (lv_at hl 0 rfl) ?_
    refine og_getI OX12 X hq hH 35 (by decide) rfl kF_X12_365 (dk DX12_goesWholly_0 34 rfl) ?_
    refine lv_icmp_ne (tgt := 74) X.x X.b (dk DX12_goesWholly_0 35 rfl) (by decide) (fun c18 => ?_) (fun c18 => ?_)
    · replace hF := if_f hF c18
      refine lv_iconst (v := 0) X.x X.b (dk DX12_goesWholly_0 38 rfl) (by decide) ?_
      cases sm hF
      exact mr_zret X hr hlk hH rfl ⟨rfl, rfl⟩ (dk DX12_goesWholly_0 39 rfl)
    · replace hF := if_t hF c18
      refine lv_iconst (v := 1) X.x X.b (dk DX12_goesWholly_0 36 rfl) (by decide) ?_
      refine lv_goto (tgt := 75) X.x X.b (dk DX12_goesWholly_0 37 rfl) (by decide) ?_
      cases sm hF
      exact mr_zret X hr hlk hH rfl ⟨rfl, rfl⟩ (dk DX12_goesWholly_0 39 rfl)
-- X12_goes
abbrev rm_X12_goes : Room := { frames := 3, cells := 0, slots := 0, locals := 75 }
theorem hd_X12_goes : mHd yX12_goes 2 := ⟨by decide +kernel, by decide +kernel, by decide +kernel⟩
theorem DX12_goes_0 : ∀ t ∈ ([(0, .aload_n 0, 1), (1, .getfield 63, 3), (4, .iload_n 1, 1), (5, .iload_n 2, 1), (6, .iastore, 1), (7, .aload_n 0, 1), (8, .dup, 1), (9, .getfield 375, 3), (12, .iload_n 2, 1), (13, .invokestatic 111, 3), (16, .lor, 1), (17, .putfield 375, 3), (20, .aload_n 0, 1), (21, .iload_n 1, 1), (22, .invokevirtual 400, 3), (25, .ireturn, 1)] : List (Nat × Instr × Nat)), decode cX12_goes t.1 = .ok (t.2.1, t.2.2) := by decide +kernel
noncomputable def f_X12_goes (st : OS) (a0 : Int32) (a1 : Int32) : Option (Int32 × OS) := if inb a0 16 = true then bnd (oA st 36 (upd (st.2.2.1 36) (a0 : Int32).toNatClampNeg a1)) (fun t2 => (f_X12_bit a1).bind (fun x4 => bnd (oJ t2 37 ((t2.2.1 37) ||| x4)) (fun t7 => (f_X12_isWell t7 a0).bind (fun x9 => if isb x9 = true then some ((x9, t7)) else none)))) else none
set_option maxHeartbeats 4000000 in
set_option maxRecDepth 100000 in
theorem c_X12_goes {l : Launch} {G : mG} {h : mM} {q : Nat → Nat} (hq : oinj LX12 q) {st : OS} {a0 : Int32} {a1 : Int32} {x : Int32 × OS} (hF : f_X12_goes st a0 a1 = some x) : cQ l G yX12_goes cX12_goes 3 (some FieldType.boolean) rm_X12_goes [.ref (q 53), .int a0, .int a1] (oset LX12 G q st h) (mQi G (fun r h1 => r = x.1 ∧ h1 = oset LX12 G q x.2 h)) := by
  refine mp_of (by decide +kernel) (Nat.le_of_ble_eq_true rfl) ?_
  intro p e s m below meth c X hr hlk hH hname ls hl
  dsimp only [f_X12_goes] at hF
  replace hl : lv_has ls 3 [(0, .ref (q 53)), (1, .int a0), (2, .int a1)] := hl
  refine lv_aload_n X.x X.b (dk DX12_goes_0 0 rfl) rfl (lv_at hl 0 rfl) ?_
  refine og_getR (t := 0) OX12 X hq hH 36 (by decide) rfl kF_X12_63 (dk DX12_goes_0 1 rfl) ?_
  refine lv_iload_n X.x X.b (dk DX12_goes_0 2 rfl) rfl (lv_at hl 1 rfl) ?_
  refine lv_iload_n X.x X.b (dk DX12_goes_0 3 rfl) rfl (lv_at hl 2 rfl) ?_
  obtain ⟨c1, hF⟩ := gd hF
  refine og_iast X hq hH 36 (by decide) rfl (inb_in c1) (dk DX12_goes_0 4 rfl) (fun H locs hH => ?_)
  obtain ⟨t2, e3⟩ : ∃ y, y = oA st 36 (upd (st.2.2.1 36) (a0 : Int32).toNatClampNeg a1) := ⟨_, rfl⟩
  rw [← e3] at hH
  replace hF := bnd_e hF e3
  refine lv_aload_n X.x X.b (dk DX12_goes_0 5 rfl) rfl (lv_at hl 0 rfl) ?_
  refine lv_dup X.x X.b (dk DX12_goes_0 6 rfl) rfl ?_
  refine og_getJ OX12 X hq hH 37 (by decide) rfl kF_X12_375 (dk DX12_goes_0 7 rfl) ?_
  refine lv_iload_n X.x X.b (dk DX12_goes_0 8 rfl) rfl (lv_at hl 2 rfl) ?_
  obtain ⟨x4, e5, hF⟩ := bd hF
  refine mr_cl0 hH ⟨rfl, rfl⟩ (mr_runS (As := [.int a1]) (rest := [.long (t2.2.1 37), .ref (q 53)]) X hH (c_X12_bit e5) kM_X12_111 kT_X12_bit kN_X12 kC_X12_bit hd_X12_bit ⟨Nat.le_of_ble_eq_true rfl, Nat.le_of_ble_eq_true rfl⟩ rfl hl.1 (Nat.le_of_ble_eq_true rfl) (dk DX12_goes_0 9 rfl) ⟨Nat.zero_le _, Nat.zero_le _⟩) (fun r h1 H locs hp hH => ?_)
  obtain ⟨hr1, hr2⟩ := hp; rw [hr1]; rw [hr2] at hH; clear hr1 hr2
  refine lv_lor X.x X.b (dk DX12_goes_0 10 rfl) ?_
  refine og_putJ OX12 X hq hH 37 (by decide) rfl kF_X12_375 rfl rfl rfl (dk DX12_goes_0 11 rfl) (fun H locs hH => ?_)
  obtain ⟨t7, e8⟩ : ∃ y, y = oJ t2 37 ((t2.2.1 37) ||| x4) := ⟨_, rfl⟩
  rw [← e8] at hH
  replace hF := bnd_e hF e8
  refine lv_aload_n X.x X.b (dk DX12_goes_0 12 rfl) rfl (lv_at hl 0 rfl) ?_
  refine lv_iload_n X.x X.b (dk DX12_goes_0 13 rfl) rfl (lv_at hl 1 rfl) ?_
  obtain ⟨x9, e10, hF⟩ := bd hF
  refine mr_ci0 hH ⟨rfl, rfl⟩ (mr_runV (As := [.int a0]) (rest := []) X hH (c_X12_isWell hq e10) ((oset_at hq (Nat.le_refl _) ohas_N).trans (congrArg some ocell_N)) OX12.1 kM_X12_400 kI_X12_isWell kS_X12_isWell kN_X12 kC_X12_isWell hd_X12_isWell ⟨Nat.le_of_ble_eq_true rfl, Nat.le_of_ble_eq_true rfl⟩ rfl hl.1 (Nat.le_of_ble_eq_true rfl) (dk DX12_goes_0 14 rfl) ⟨Nat.zero_le _, Nat.zero_le _⟩) (fun r h1 H locs hp hH => ?_)
  obtain ⟨hr1, hr2⟩ := hp; rw [hr1]; rw [hr2] at hH; clear hr1 hr2
  obtain ⟨c12, hF⟩ := gd hF
  cases sm hF
  exact mr_zret X hr hlk hH (isb_nar c12) ⟨rfl, rfl⟩ (dk DX12_goes_0 15 rfl)
-- X12_backs
abbrev rm_X12_backs : Room := { frames := 1, cells := 0, slots := 0, locals := 20 }
theorem hd_X12_backs : mHd yX12_backs 1 := ⟨by decide +kernel, by decide +kernel, by decide +kernel⟩
theorem DX12_backs_0 : ∀ t ∈ ([(0, .aload_n 0, 1), (1, .dup, 1), (2, .getfield 375, 3), (5, .aload_n 0, 1), (6, .getfield 63, 3), (9, .iload_n 1, 1), (10, .iaload, 1), (11, .invokestatic 111, 3), (14, .ldc2_w 109, 3), (17, .lxor, 1), (18, .land, 1), (19, .putfield 375, 3), (22, .aload_n 0, 1), (23, .getfield 63, 3), (26, .iload_n 1, 1), (27, .iconst (-1), 1), (28, .iastore, 1), (29, .return_, 1)] : List (Nat × Instr × Nat)), decode cX12_backs t.1 = .ok (t.2.1, t.2.2) := by decide +kernel
noncomputable def f_X12_backs (st : OS) (a0 : Int32) : Option (OS) := if inb a0 16 = true then (f_X12_bit (st.2.2.1 36 (a0 : Int32).toNatClampNeg)).bind (fun x2 => bnd (oJ st 37 ((st.2.1 37) &&& (x2 ^^^ ((-1))))) (fun t5 => bnd (oA t5 36 (upd (t5.2.2.1 36) (a0 : Int32).toNatClampNeg ((-1)))) (fun t7 => some t7))) else none
set_option maxHeartbeats 4000000 in
set_option maxRecDepth 100000 in
theorem c_X12_backs {l : Launch} {G : mG} {h : mM} {q : Nat → Nat} (hq : oinj LX12 q) {st : OS} {a0 : Int32} {x : OS} (hF : f_X12_backs st a0 = some x) : cQ l G yX12_backs cX12_backs 2 none rm_X12_backs [.ref (q 53), .int a0] (oset LX12 G q st h) (mQv G (fun h1 => h1 = oset LX12 G q x h)) := by
  refine mp_of (by decide +kernel) (Nat.le_of_ble_eq_true rfl) ?_
  intro p e s m below meth c X hr hlk hH hname ls hl
  dsimp only [f_X12_backs] at hF
  replace hl : lv_has ls 2 [(0, .ref (q 53)), (1, .int a0)] := hl
  refine lv_aload_n X.x X.b (dk DX12_backs_0 0 rfl) rfl (lv_at hl 0 rfl) ?_
  refine lv_dup X.x X.b (dk DX12_backs_0 1 rfl) rfl ?_
  refine og_getJ OX12 X hq hH 37 (by decide) rfl kF_X12_375 (dk DX12_backs_0 2 rfl) ?_
  refine lv_aload_n X.x X.b (dk DX12_backs_0 3 rfl) rfl (lv_at hl 0 rfl) ?_
  refine og_getR (t := 0) OX12 X hq hH 36 (by decide) rfl kF_X12_63 (dk DX12_backs_0 4 rfl) ?_
  refine lv_iload_n X.x X.b (dk DX12_backs_0 5 rfl) rfl (lv_at hl 1 rfl) ?_
  obtain ⟨c1, hF⟩ := gd hF
  refine og_iald X hq hH 36 (by decide) rfl (inb_in c1) (dk DX12_backs_0 6 rfl) ?_
  obtain ⟨x2, e3, hF⟩ := bd hF
  refine mr_cl0 hH ⟨rfl, rfl⟩ (mr_runS (As := [.int (st.2.2.1 36 (a0 : Int32).toNatClampNeg)]) (rest := [.long (st.2.1 37), .ref (q 53)]) X hH (c_X12_bit e3) kM_X12_111 kT_X12_bit kN_X12 kC_X12_bit hd_X12_bit ⟨Nat.le_of_ble_eq_true rfl, Nat.le_of_ble_eq_true rfl⟩ rfl hl.1 (Nat.le_of_ble_eq_true rfl) (dk DX12_backs_0 7 rfl) ⟨Nat.zero_le _, Nat.zero_le _⟩) (fun r h1 H locs hp hH => ?_)
  obtain ⟨hr1, hr2⟩ := hp; rw [hr1]; rw [hr2] at hH; clear hr1 hr2
  refine lv_ldc2 (v := (-1)) X.x X.b X.ow (X.ts _ kK_X12_109) (dk DX12_backs_0 8 rfl) ?_
  refine lv_lxor X.x X.b (dk DX12_backs_0 9 rfl) ?_
  refine lv_land X.x X.b (dk DX12_backs_0 10 rfl) ?_
  refine og_putJ OX12 X hq hH 37 (by decide) rfl kF_X12_375 rfl rfl rfl (dk DX12_backs_0 11 rfl) (fun H locs hH => ?_)
  obtain ⟨t5, e6⟩ : ∃ y, y = oJ st 37 ((st.2.1 37) &&& (x2 ^^^ ((-1)))) := ⟨_, rfl⟩
  rw [← e6] at hH
  replace hF := bnd_e hF e6
  refine lv_aload_n X.x X.b (dk DX12_backs_0 12 rfl) rfl (lv_at hl 0 rfl) ?_
  refine og_getR (t := 0) OX12 X hq hH 36 (by decide) rfl kF_X12_63 (dk DX12_backs_0 13 rfl) ?_
  refine lv_iload_n X.x X.b (dk DX12_backs_0 14 rfl) rfl (lv_at hl 1 rfl) ?_
  refine lv_iconst (v := (-1)) X.x X.b (dk DX12_backs_0 15 rfl) (by decide) ?_
  refine og_iast X hq hH 36 (by decide) rfl (inb_in c1) (dk DX12_backs_0 16 rfl) (fun H locs hH => ?_)
  obtain ⟨t7, e8⟩ : ∃ y, y = oA t5 36 (upd (t5.2.2.1 36) (a0 : Int32).toNatClampNeg ((-1))) := ⟨_, rfl⟩
  rw [← e8] at hH
  replace hF := bnd_e hF e8
  cases sm hF
  exact mr_vret X hr hlk hH rfl (dk DX12_backs_0 17 rfl)
-- X12_canGo
abbrev rm_X12_canGo (d : Nat) : Room := { frames := 4 + d, cells := 0, slots := 0, locals := 97 + d * 22 }
theorem hd_X12_canGo : mHd yX12_canGo 1 := ⟨by decide +kernel, by decide +kernel, by decide +kernel⟩
theorem DX12_canGo_0 : ∀ t ∈ ([(0, .iload_n 1, 1), (1, .aload_n 0, 1), (2, .getfield 248, 3), (5, .if_icmp .ne 8, 3), (8, .aload_n 0, 1), (9, .invokevirtual 388, 3), (12, .ireturn, 1), (13, .aload_n 0, 1), (14, .getfield 63, 3), (17, .iload_n 1, 1), (18, .iaload, 1), (19, .iconst (-1), 1), (20, .if_icmp .eq 11, 3), (23, .aload_n 0, 1), (24, .iload_n 1, 1), (25, .iconst 1, 1), (26, .iadd, 1), (27, .invokevirtual 391, 3), (30, .ireturn, 1), (31, .iconst 0, 1), (32, .istore_n 2, 1), (33, .iload_n 2, 1), (34, .aload_n 0, 1), (35, .getfield 248, 3), (38, .if_icmp .ge 49, 3), (41, .aload_n 0, 1), (42, .getfield 375, 3), (45, .iload_n 2, 1), (46, .invokestatic 232, 3), (49, .ifCond .eq 6, 3), (52, .goto 29, 3), (55, .aload_n 0, 1), (56, .iload_n 1, 1), (57, .iload_n 2, 1), (58, .invokevirtual 394, 3), (61, .ifCond .eq 15, 3), (64, .aload_n 0, 1), (65, .iload_n 1, 1), (66, .iconst 1, 1), (67, .iadd, 1), (68, .invokevirtual 391, 3), (71, .ifCond .eq 5, 3), (74, .iconst 1, 1), (75, .ireturn, 1), (76, .aload_n 0, 1), (77, .iload_n 1, 1), (78, .invokevirtual 397, 3), (81, .iinc 2 1, 3), (84, .goto (-51), 3), (87, .iconst 0, 1), (88, .ireturn, 1)] : List (Nat × Instr × Nat)), decode cX12_canGo t.1 = .ok (t.2.1, t.2.2) := by decide +kernel
noncomputable def f_X12_canGo_33 (rec : OS → Int32 → Option (Int32 × OS)) (b1 : Int32) : (OS × Int32) → Option ((OS × Int32) ⊕ (Nat × OS)) := fun z => match z with | (s_t, b2) => (if (s_t.1 0) ≤ b2 then some (.inr ((1, s_t))) else (f_X12_has (s_t.2.1 37) b2).bind (fun x5 => (if x5 = 0 then (f_X12_goes s_t b1 b2).bind (fun x9 => match x9 with | (v11, t12) => (if v11 = 0 then (f_X12_backs t12 b1).bind (fun x14 => bnd (b2 + 1 : Int32) (fun v17 => some (.inl ((x14, v17))))) else (rec t12 (b1 + 1)).bind (fun x19 => match x19 with | (v21, t22) => (if v21 = 0 then (f_X12_backs t22 b1).bind (fun x24 => bnd (b2 + 1 : Int32) (fun v27 => some (.inl ((x24, v27))))) else some (.inr ((0, t22))))))) else bnd (b2 + 1 : Int32) (fun v29 => some (.inl ((s_t, v29)))))))
noncomputable def f_X12_canGo_T (rec : OS → Int32 → Option (Int32 × OS)) (st : OS) (a0 : Int32) : Option (Int32 × OS) := (if a0 = (st.1 0) then (f_X12_goesWholly st).bind (fun x40 => if isb x40 = true then some ((x40, st)) else none) else if inb a0 16 = true then (if (st.2.2.1 36 (a0 : Int32).toNatClampNeg) = ((-1)) then (lpv (f_X12_canGo_33 rec a0) ((st, 0))).bind (fun x31 => match x31 with | (k34, t33) => (if k34 = 0 then some ((1, t33)) else some ((0, t33)))) else (rec st (a0 + 1)).bind (fun x35 => match x35 with | (v37, t38) => if isb v37 = true then some ((v37, t38)) else none)) else none)
noncomputable def f_X12_canGo : Nat → OS → Int32 → Option (Int32 × OS)
  | 0 => fun _ _ => none
  | d + 1 => f_X12_canGo_T (f_X12_canGo d)
set_option maxHeartbeats 4000000 in
set_option maxRecDepth 100000 in
theorem w_X12_canGo_33 {p : Program} {l : Launch} {e : Env} {s : State} {m : MethodId} {args : Array Value} {below : List Frame} {meth : Method} {c : Code} {Q : State → Prop} {G : mG} {h : mM} {q : Nat → Nat} (hq : oinj LX12 q) {d : Nat} {rec : OS → Int32 → Option (Int32 × OS)} (ih : ∀ (st : OS) (a0 : Int32) (x : Int32 × OS), rec st a0 = some x → cQ l G yX12_canGo cX12_canGo 3 (some FieldType.boolean) (rm_X12_canGo d) [.ref (q 53), .int a0] (oset LX12 G q st h) (mQi G (fun r h1 => r = x.1 ∧ h1 = oset LX12 G q x.2 h))) (X : mX G p m c cX12_canGo 3 s args RX12) (b1 : Int32) : ∀ (z : OS × Int32) (r : Nat × OS), lpv (f_X12_canGo_33 rec b1) z = some r → ∀ (H : Heap) (locs : List Loc) (ls : Array Slot), mH G (oset LX12 G q z.1 h) s.heap H locs → lv_has ls 3 [(0, .ref (q 53)), (1, .int b1), (2, .int z.2)] → (r.1 = 0 → ∀ (H : Heap) (locs : List Loc) (ls : Array Slot), mH G (oset LX12 G q r.2 h) s.heap H locs → lv_has ls 3 [] → W p l e (rm_X12_canGo (d + 1)) s m args below meth c H locs 0 0 Q (F0 m 74 ls [])) → (r.1 = 1 → ∀ (H : Heap) (locs : List Loc) (ls : Array Slot), mH G (oset LX12 G q r.2 h) s.heap H locs → lv_has ls 3 [] → W p l e (rm_X12_canGo (d + 1)) s m args below meth c H locs 0 0 Q (F0 m 87 ls [])) → W p l e (rm_X12_canGo (d + 1)) s m args below meth c H locs 0 0 Q (F0 m 33 ls []) := by
  refine lpv_rec ?_
  intro z r x hF hx H locs ls hH hl K0 K1
  obtain ⟨s_t, b2⟩ := z
  dsimp only [f_X12_canGo_33] at hF
  try dsimp only at hH hl
  refine lv_iload_n X.x X.b (dk DX12_canGo_0 21 rfl) rfl (lv_at hl 2 rfl) ?_
  refine lv_aload_n X.x X.b (dk DX12_canGo_0 22 rfl) rfl (lv_at hl 0 rfl) ?_
  refine og_getI OX12 X hq hH 0 (by decide) rfl kF_X12_248 (dk DX12_canGo_0 23 rfl) ?_
  refine lv_icmp_ge (tgt := 87) X.x X.b (dk DX12_canGo_0 24 rfl) (by decide) (fun c4 => ?_) (fun c4 => ?_)
  · replace hF := if_t hF c4
    have hr9 := lp_r hF hx
    subst hr9
    exact K1 rfl _ _ _ hH (lv_sub hl [] rfl)
  · replace hF := if_f hF c4
    refine lv_aload_n X.x X.b (dk DX12_canGo_0 25 rfl) rfl (lv_at hl 0 rfl) ?_
    refine og_getJ OX12 X hq hH 37 (by decide) rfl kF_X12_375 (dk DX12_canGo_0 26 rfl) ?_
    refine lv_iload_n X.x X.b (dk DX12_canGo_0 27 rfl) rfl (lv_at hl 2 rfl) ?_
    obtain ⟨x5, e6, hF⟩ := bd hF
    refine mr_ci0 hH ⟨rfl, rfl⟩ (mr_runS (As := [.long (s_t.2.1 37), .int b2]) (rest := []) X hH (c_X12_has e6) kM_X12_232 kT_X12_has kN_X12 kC_X12_has hd_X12_has ⟨by dsimp only [rm_X12_canGo, rm_X12_has]; omega, by dsimp only [rm_X12_canGo, rm_X12_has]; omega⟩ rfl hl.1 (Nat.le_of_ble_eq_true rfl) (dk DX12_canGo_0 28 rfl) ⟨Nat.zero_le _, Nat.zero_le _⟩) (fun r h1 H locs hp hH => ?_)
    obtain ⟨hr1, hr2⟩ := hp; rw [hr1]; rw [hr2] at hH; clear hr1 hr2
    refine lv_if_eq (tgt := 55) X.x X.b (dk DX12_canGo_0 29 rfl) (by decide) (fun c8 => ?_) (fun c8 => ?_)
    · replace hF := if_t hF c8
      refine lv_aload_n X.x X.b (dk DX12_canGo_0 31 rfl) rfl (lv_at hl 0 rfl) ?_
      refine lv_iload_n X.x X.b (dk DX12_canGo_0 32 rfl) rfl (lv_at hl 1 rfl) ?_
      refine lv_iload_n X.x X.b (dk DX12_canGo_0 33 rfl) rfl (lv_at hl 2 rfl) ?_
      obtain ⟨x9, e10, hF⟩ := bd hF
      refine mr_ci0 hH ⟨rfl, rfl⟩ (mr_runV (As := [.int b1, .int b2]) (rest := []) X hH (c_X12_goes hq e10) ((oset_at hq (Nat.le_refl _) ohas_N).trans (congrArg some ocell_N)) OX12.1 kM_X12_394 kI_X12_goes kS_X12_goes kN_X12 kC_X12_goes hd_X12_goes ⟨by dsimp only [rm_X12_canGo, rm_X12_goes]; omega, by dsimp only [rm_X12_canGo, rm_X12_goes]; omega⟩ rfl hl.1 (Nat.le_of_ble_eq_true rfl) (dk DX12_canGo_0 34 rfl) ⟨Nat.zero_le _, Nat.zero_le _⟩) (fun r h1 H locs hp hH => ?_)
      obtain ⟨hr1, hr2⟩ := hp; rw [hr1]; rw [hr2] at hH; clear hr1 hr2
      obtain ⟨v11, t12⟩ := x9
      try dsimp only at hF hH ⊢
      refine lv_if_eq (tgt := 76) X.x X.b (dk DX12_canGo_0 35 rfl) (by decide) (fun c13 => ?_) (fun c13 => ?_)
      · replace hF := if_t hF c13
        refine lv_aload_n X.x X.b (dk DX12_canGo_0 44 rfl) rfl (lv_at hl 0 rfl) ?_
        refine lv_iload_n X.x X.b (dk DX12_canGo_0 45 rfl) rfl (lv_at hl 1 rfl) ?_
        obtain ⟨x14, e15, hF⟩ := bd hF
        refine mr_cv0 hH ⟨rfl, rfl⟩ (mr_runV (As := [.int b1]) (rest := []) X hH (c_X12_backs hq e15) ((oset_at hq (Nat.le_refl _) ohas_N).trans (congrArg some ocell_N)) OX12.1 kM_X12_397 kI_X12_backs kS_X12_backs kN_X12 kC_X12_backs hd_X12_backs ⟨by dsimp only [rm_X12_canGo, rm_X12_backs]; omega, by dsimp only [rm_X12_canGo, rm_X12_backs]; omega⟩ rfl hl.1 (Nat.le_of_ble_eq_true rfl) (dk DX12_canGo_0 46 rfl) ⟨Nat.zero_le _, Nat.zero_le _⟩) (fun h1 H locs hp hH => ?_)
        rw [hp] at hH; clear hp
        obtain ⟨v17, e18⟩ : ∃ y : Int32, y = b2 + 1 := ⟨_, rfl⟩
        replace hF := bnd_e hF e18
        refine lv_iinc (v := v17) (lv' := [(2, .int v17), (0, .ref (q 53)), (1, .int b1)]) X.x X.b (dk DX12_canGo_0 47 rfl) hl (k := 2) rfl (by rw [e18]; rfl) (by decide) rfl (fun ls hl => ?_)
        replace hl : lv_has ls 3 [(0, .ref (q 53)), (1, .int b1), (2, .int v17)] := lv_sub hl [1, 2, 0] rfl
        refine lv_goto (tgt := 33) X.x X.b (dk DX12_canGo_0 48 rfl) (by decide) ?_
        exact (lp_l hF hx) _ _ _ hH (lv_sub hl [0, 1, 2] rfl) K0 K1
      · replace hF := if_f hF c13
        refine lv_aload_n X.x X.b (dk DX12_canGo_0 36 rfl) rfl (lv_at hl 0 rfl) ?_
        refine lv_iload_n X.x X.b (dk DX12_canGo_0 37 rfl) rfl (lv_at hl 1 rfl) ?_
        refine lv_iconst (v := 1) X.x X.b (dk DX12_canGo_0 38 rfl) (by decide) ?_
        refine lv_iadd X.x X.b (dk DX12_canGo_0 39 rfl) ?_
        obtain ⟨x19, e20, hF⟩ := bd hF
        refine mr_ci0 hH ⟨rfl, rfl⟩ (mr_runV (As := [.int (b1 + 1)]) (rest := []) X hH (ih t12 (b1 + 1) _ e20) ((oset_at hq (Nat.le_refl _) ohas_N).trans (congrArg some ocell_N)) OX12.1 kM_X12_391 kI_X12_canGo kS_X12_canGo kN_X12 kC_X12_canGo hd_X12_canGo ⟨by dsimp only [rm_X12_canGo, rm_X12_canGo]; omega, by dsimp only [rm_X12_canGo, rm_X12_canGo]; omega⟩ rfl hl.1 (Nat.le_of_ble_eq_true rfl) (dk DX12_canGo_0 40 rfl) ⟨Nat.zero_le _, Nat.zero_le _⟩) (fun r h1 H locs hp hH => ?_)
        obtain ⟨hr1, hr2⟩ := hp; rw [hr1]; rw [hr2] at hH; clear hr1 hr2
        obtain ⟨v21, t22⟩ := x19
        try dsimp only at hF hH ⊢
        refine lv_if_eq (tgt := 76) X.x X.b (dk DX12_canGo_0 41 rfl) (by decide) (fun c23 => ?_) (fun c23 => ?_)
        · replace hF := if_t hF c23
          refine lv_aload_n X.x X.b (dk DX12_canGo_0 44 rfl) rfl (lv_at hl 0 rfl) ?_
          refine lv_iload_n X.x X.b (dk DX12_canGo_0 45 rfl) rfl (lv_at hl 1 rfl) ?_
          obtain ⟨x24, e25, hF⟩ := bd hF
          refine mr_cv0 hH ⟨rfl, rfl⟩ (mr_runV (As := [.int b1]) (rest := []) X hH (c_X12_backs hq e25) ((oset_at hq (Nat.le_refl _) ohas_N).trans (congrArg some ocell_N)) OX12.1 kM_X12_397 kI_X12_backs kS_X12_backs kN_X12 kC_X12_backs hd_X12_backs ⟨by dsimp only [rm_X12_canGo, rm_X12_backs]; omega, by dsimp only [rm_X12_canGo, rm_X12_backs]; omega⟩ rfl hl.1 (Nat.le_of_ble_eq_true rfl) (dk DX12_canGo_0 46 rfl) ⟨Nat.zero_le _, Nat.zero_le _⟩) (fun h1 H locs hp hH => ?_)
          rw [hp] at hH; clear hp
          obtain ⟨v27, e28⟩ : ∃ y : Int32, y = b2 + 1 := ⟨_, rfl⟩
          replace hF := bnd_e hF e28
          refine lv_iinc (v := v27) (lv' := [(2, .int v27), (0, .ref (q 53)), (1, .int b1)]) X.x X.b (dk DX12_canGo_0 47 rfl) hl (k := 2) rfl (by rw [e28]; rfl) (by decide) rfl (fun ls hl => ?_)
          replace hl : lv_has ls 3 [(0, .ref (q 53)), (1, .int b1), (2, .int v27)] := lv_sub hl [1, 2, 0] rfl
          refine lv_goto (tgt := 33) X.x X.b (dk DX12_canGo_0 48 rfl) (by decide) ?_
          exact (lp_l hF hx) _ _ _ hH (lv_sub hl [0, 1, 2] rfl) K0 K1
        · replace hF := if_f hF c23
          have hr9 := lp_r hF hx
          subst hr9
          exact K0 rfl _ _ _ hH (lv_sub hl [] rfl)
    · replace hF := if_f hF c8
      refine lv_goto (tgt := 81) X.x X.b (dk DX12_canGo_0 30 rfl) (by decide) ?_
      obtain ⟨v29, e30⟩ : ∃ y : Int32, y = b2 + 1 := ⟨_, rfl⟩
      replace hF := bnd_e hF e30
      refine lv_iinc (v := v29) (lv' := [(2, .int v29), (0, .ref (q 53)), (1, .int b1)]) X.x X.b (dk DX12_canGo_0 47 rfl) hl (k := 2) rfl (by rw [e30]; rfl) (by decide) rfl (fun ls hl => ?_)
      replace hl : lv_has ls 3 [(0, .ref (q 53)), (1, .int b1), (2, .int v29)] := lv_sub hl [1, 2, 0] rfl
      refine lv_goto (tgt := 33) X.x X.b (dk DX12_canGo_0 48 rfl) (by decide) ?_
      exact (lp_l hF hx) _ _ _ hH (lv_sub hl [0, 1, 2] rfl) K0 K1
set_option maxHeartbeats 4000000 in
set_option maxRecDepth 100000 in
theorem c_X12_canGo {l : Launch} {G : mG} {h : mM} {q : Nat → Nat} (hq : oinj LX12 q) (d : Nat) : ∀ (st : OS) (a0 : Int32) (x : Int32 × OS), f_X12_canGo d st a0 = some x → cQ l G yX12_canGo cX12_canGo 3 (some FieldType.boolean) (rm_X12_canGo d) [.ref (q 53), .int a0] (oset LX12 G q st h) (mQi G (fun r h1 => r = x.1 ∧ h1 = oset LX12 G q x.2 h)) := by
  induction d with
  | zero => intro st a0 x hF; cases hF
  | succ d ih =>
    intro st a0 x hF
    have hF : f_X12_canGo_T (f_X12_canGo d) st a0 = some x := hF
    generalize f_X12_canGo d = rec at hF ih
    refine mp_of (by decide +kernel) (Nat.le_of_ble_eq_true rfl) ?_
    intro p e s m below meth c X hr hlk hH hname ls hl
    dsimp only [f_X12_canGo_T] at hF
    replace hl : lv_has ls 3 [(0, .ref (q 53)), (1, .int a0)] := hl
    refine lv_iload_n X.x X.b (dk DX12_canGo_0 0 rfl) rfl (lv_at hl 1 rfl) ?_
    refine lv_aload_n X.x X.b (dk DX12_canGo_0 1 rfl) rfl (lv_at hl 0 rfl) ?_
    refine og_getI OX12 X hq hH 0 (by decide) rfl kF_X12_248 (dk DX12_canGo_0 2 rfl) ?_
    refine lv_icmp_ne (tgt := 13) X.x X.b (dk DX12_canGo_0 3 rfl) (by decide) (fun c1 => ?_) (fun c1 => ?_)
    · replace hF := if_f hF c1
      refine lv_aload_n X.x X.b (dk DX12_canGo_0 7 rfl) rfl (lv_at hl 0 rfl) ?_
      refine og_getR (t := 0) OX12 X hq hH 36 (by decide) rfl kF_X12_63 (dk DX12_canGo_0 8 rfl) ?_
      refine lv_iload_n X.x X.b (dk DX12_canGo_0 9 rfl) rfl (lv_at hl 1 rfl) ?_
      obtain ⟨c2, hF⟩ := gd hF
      refine og_iald X hq hH 36 (by decide) rfl (inb_in c2) (dk DX12_canGo_0 10 rfl) ?_
      refine lv_iconst (v := (-1)) X.x X.b (dk DX12_canGo_0 11 rfl) (by decide) ?_
      refine lv_icmp_eq (tgt := 31) X.x X.b (dk DX12_canGo_0 12 rfl) (by decide) (fun c3 => ?_) (fun c3 => ?_)
      · replace hF := if_t hF c3
        refine lv_iconst (v := 0) X.x X.b (dk DX12_canGo_0 19 rfl) (by decide) ?_
        refine lv_istore_n (lv' := [(2, .int 0), (0, .ref (q 53)), (1, .int a0)]) X.x X.b (dk DX12_canGo_0 20 rfl) rfl hl (by decide) rfl (fun ls hl => ?_)
        replace hl : lv_has ls 3 [(0, .ref (q 53)), (1, .int a0), (2, .int 0)] := lv_sub hl [1, 2, 0] rfl
        obtain ⟨x31, e32, hF⟩ := bd hF
        replace hl : lv_has ls 3 [(0, .ref (q 53)), (1, .int a0), (2, .int 0)] := lv_sub hl [0, 1, 2] rfl
        obtain ⟨k34, t33⟩ := x31
        try dsimp only at hF
        refine w_X12_canGo_33 hq ih X a0 _ _ e32 _ _ _ hH hl (fun hk H locs ls hH hl => ?_) (fun hk H locs ls hH hl => ?_)
        · try dsimp only at hH hl
          try dsimp only at hk
          subst hk
          replace hF := if_t hF rfl
          refine lv_iconst (v := 1) X.x X.b (dk DX12_canGo_0 42 rfl) (by decide) ?_
          cases sm hF
          exact mr_zret X hr hlk hH rfl ⟨rfl, rfl⟩ (dk DX12_canGo_0 43 rfl)
        · try dsimp only at hH hl
          try dsimp only at hk
          subst hk
          replace hF := if_f hF (by decide)
          refine lv_iconst (v := 0) X.x X.b (dk DX12_canGo_0 49 rfl) (by decide) ?_
          cases sm hF
          exact mr_zret X hr hlk hH rfl ⟨rfl, rfl⟩ (dk DX12_canGo_0 50 rfl)
      · replace hF := if_f hF c3
        refine lv_aload_n X.x X.b (dk DX12_canGo_0 13 rfl) rfl (lv_at hl 0 rfl) ?_
        refine lv_iload_n X.x X.b (dk DX12_canGo_0 14 rfl) rfl (lv_at hl 1 rfl) ?_
        refine lv_iconst (v := 1) X.x X.b (dk DX12_canGo_0 15 rfl) (by decide) ?_
        refine lv_iadd X.x X.b (dk DX12_canGo_0 16 rfl) ?_
        obtain ⟨x35, e36, hF⟩ := bd hF
        refine mr_ci0 hH ⟨rfl, rfl⟩ (mr_runV (As := [.int (a0 + 1)]) (rest := []) X hH (ih st (a0 + 1) _ e36) ((oset_at hq (Nat.le_refl _) ohas_N).trans (congrArg some ocell_N)) OX12.1 kM_X12_391 kI_X12_canGo kS_X12_canGo kN_X12 kC_X12_canGo hd_X12_canGo ⟨by dsimp only [rm_X12_canGo, rm_X12_canGo]; omega, by dsimp only [rm_X12_canGo, rm_X12_canGo]; omega⟩ rfl hl.1 (Nat.le_of_ble_eq_true rfl) (dk DX12_canGo_0 17 rfl) ⟨Nat.zero_le _, Nat.zero_le _⟩) (fun r h1 H locs hp hH => ?_)
        obtain ⟨hr1, hr2⟩ := hp; rw [hr1]; rw [hr2] at hH; clear hr1 hr2
        obtain ⟨v37, t38⟩ := x35
        try dsimp only at hF hH ⊢
        obtain ⟨c39, hF⟩ := gd hF
        cases sm hF
        exact mr_zret X hr hlk hH (isb_nar c39) ⟨rfl, rfl⟩ (dk DX12_canGo_0 18 rfl)
    · replace hF := if_t hF c1
      refine lv_aload_n X.x X.b (dk DX12_canGo_0 4 rfl) rfl (lv_at hl 0 rfl) ?_
      obtain ⟨x40, e41, hF⟩ := bd hF
      refine mr_ci0 hH ⟨rfl, rfl⟩ (mr_runV (As := []) (rest := []) X hH (c_X12_goesWholly hq e41) ((oset_at hq (Nat.le_refl _) ohas_N).trans (congrArg some ocell_N)) OX12.1 kM_X12_388 kI_X12_goesWholly kS_X12_goesWholly kN_X12 kC_X12_goesWholly hd_X12_goesWholly ⟨by dsimp only [rm_X12_canGo, rm_X12_goesWholly]; omega, by dsimp only [rm_X12_canGo, rm_X12_goesWholly]; omega⟩ rfl hl.1 (Nat.le_of_ble_eq_true rfl) (dk DX12_canGo_0 5 rfl) ⟨Nat.zero_le _, Nat.zero_le _⟩) (fun r h1 H locs hp hH => ?_)
      obtain ⟨hr1, hr2⟩ := hp; rw [hr1]; rw [hr2] at hH; clear hr1 hr2
      obtain ⟨c43, hF⟩ := gd hF
      cases sm hF
      exact mr_zret X hr hlk hH (isb_nar c43) ⟨rfl, rfl⟩ (dk DX12_canGo_0 6 rfl)
