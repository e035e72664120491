def LX12 : LY := (10, 53, fun k => match k with
  | 3 => (3, 64)
  | 4 => (2, 700)
  | 17 => (3, 64)
  | 18 => (2, 81)
  | 19 => (2, 40)
  | 20 => (3, 64)
  | 24 => (1, 0)
  | 25 => (3, 64)
  | 26 => (3, 64)
  | 27 => (2, 128)
  | 28 => (2, 128)
  | 29 => (2, 128)
  | 30 => (2, 4096)
  | 31 => (3, 64)
  | 32 => (3, 16)
  | 33 => (2, 64)
  | 34 => (3, 64)
  | 36 => (2, 16)
  | 37 => (1, 0)
  | 38 => (3, 1280)
  | 39 => (3, 1280)
  | 40 => (2, 20)
  | 41 => (2, 20)
  | 42 => (2, 20)
  | 43 => (2, 20)
  | 46 => (2, 4)
  | 47 => (2, 4)
  | 48 => (3, 160)
  | 49 => (5, 3)
  | 50 => (2, 3)
  | 51 => (2, 3)
  | 52 => (3, 192)
  | _ => (0, 0))
theorem OX12 : oOK LX12 RX12 TX12 tyX12 := ⟨rfl, hinX12, tyX12_ok, nmX12⟩
-- X12_thrown
abbrev rm_X12_thrown : Room := { frames := 0, cells := 0, slots := 0, locals := 0 }
theorem hd_X12_thrown : mHd yX12_thrown 0 := ⟨by decide +kernel, by decide +kernel, by decide +kernel⟩
theorem DX12_thrown_0 : ∀ t ∈ ([(0, .aload_n 0, 1), (1, .getfield 106, 3), (4, .ireturn, 1)] : List (Nat × Instr × Nat)), decode cX12_thrown t.1 = .ok (t.2.1, t.2.2) := by decide +kernel
noncomputable def f_X12_thrown (st : OS) : Option (Int32) := some (st.1 2)
set_option maxHeartbeats 4000000 in
set_option maxRecDepth 100000 in
theorem c_X12_thrown {l : Launch} {G : mG} {h : mM} {q : Nat → Nat} (hq : oinj LX12 q) {st : OS} {x : Int32} (hF : f_X12_thrown st = some x) : cQ l G yX12_thrown cX12_thrown 1 (some FieldType.int) rm_X12_thrown [.ref (q 53)] (oset LX12 G q st h) (mQi G (fun r h1 => r = x ∧ h1 = oset LX12 G q st h)) := by
  refine mp_of (by decide +kernel) (Nat.le_of_ble_eq_true rfl) ?_
  intro p e s m below meth c X hr hlk hH hname ls hl
  dsimp only [f_X12_thrown] at hF
  replace hl : lv_has ls 1 [(0, .ref (q 53))] := hl
  refine lv_aload_n X.x X.b (dk DX12_thrown_0 0 rfl) rfl (lv_at hl 0 rfl) ?_
  refine og_getI OX12 X hq hH 2 (by decide) rfl kF_X12_106 (dk DX12_thrown_0 1 rfl) ?_
  cases sm hF
  exact mr_iret X hr hlk hH ⟨rfl, rfl⟩ (dk DX12_thrown_0 2 rfl)
-- X12_fails
abbrev rm_X12_fails : Room := { frames := 0, cells := 0, slots := 0, locals := 0 }
theorem hd_X12_fails : mHd yX12_fails 1 := ⟨by decide +kernel, by decide +kernel, by decide +kernel⟩
theorem DX12_fails_0 : ∀ t ∈ ([(0, .aload_n 0, 1), (1, .iload_n 1, 1), (2, .putfield 106, 3), (5, .iconst 0, 1), (6, .ireturn, 1)] : List (Nat × Instr × Nat)), decode cX12_fails t.1 = .ok (t.2.1, t.2.2) := by decide +kernel
noncomputable def f_X12_fails (st : OS) (a0 : Int32) : Option (Int32 × OS) := bnd (oI st 2 a0) (fun t1 => some ((0, t1)))
set_option maxHeartbeats 4000000 in
set_option maxRecDepth 100000 in
theorem c_X12_fails {l : Launch} {G : mG} {h : mM} {q : Nat → Nat} (hq : oinj LX12 q) {st : OS} {a0 : Int32} {x : Int32 × OS} (hF : f_X12_fails st a0 = some x) : cQ l G yX12_fails cX12_fails 2 (some FieldType.int) rm_X12_fails [.ref (q 53), .int a0] (oset LX12 G q st h) (mQi G (fun r h1 => r = x.1 ∧ h1 = oset LX12 G q x.2 h)) := by
  refine mp_of (by decide +kernel) (Nat.le_of_ble_eq_true rfl) ?_
  intro p e s m below meth c X hr hlk hH hname ls hl
  dsimp only [f_X12_fails] at hF
  replace hl : lv_has ls 2 [(0, .ref (q 53)), (1, .int a0)] := hl
  refine lv_aload_n X.x X.b (dk DX12_fails_0 0 rfl) rfl (lv_at hl 0 rfl) ?_
  refine lv_iload_n X.x X.b (dk DX12_fails_0 1 rfl) rfl (lv_at hl 1 rfl) ?_
  refine og_putI OX12 X hq hH 2 (by decide) rfl kF_X12_106 rfl rfl rfl (dk DX12_fails_0 2 rfl) (fun H locs hH => ?_)
  obtain ⟨t1, e2⟩ : ∃ y, y = oI st 2 a0 := ⟨_, rfl⟩
  rw [← e2] at hH
  replace hF := bnd_e hF e2
  refine lv_iconst (v := 0) X.x X.b (dk DX12_fails_0 3 rfl) (by decide) ?_
  cases sm hF
  exact mr_iret X hr hlk hH ⟨rfl, rfl⟩ (dk DX12_fails_0 4 rfl)
-- X12_within
abbrev rm_X12_within : Room := { frames := 0, cells := 0, slots := 0, locals := 0 }
theorem hd_X12_within : mHd yX12_within 3 := ⟨by decide +kernel, by decide +kernel, by decide +kernel⟩
theorem DX12_within_0 : ∀ t ∈ ([(0, .lload_n 0, 1), (1, .lload_n 2, 1), (2, .lcmp, 1), (3, .ifCond .lt 14, 3), (6, .lload_n 0, 1), (7, .lload 4, 2), (9, .lcmp, 1), (10, .ifCond .gt 7, 3), (13, .iconst 1, 1), (14, .goto 4, 3), (17, .iconst 0, 1), (18, .ireturn, 1)] : List (Nat × Instr × Nat)), decode cX12_within t.1 = .ok (t.2.1, t.2.2) := by decide +kernel
noncomputable def f_X12_within (a0 : Int64) (a1 : Int64) (a2 : Int64) : Option (Int32) := (if (lg_cmp a0 a1) < 0 then some 0 else (if 0 < (lg_cmp a0 a2) then some 0 else some 1))
set_option maxHeartbeats 4000000 in
set_option maxRecDepth 100000 in
theorem c_X12_within {l : Launch} {G : mG} {h : mM}  {a0 : Int64} {a1 : Int64} {a2 : Int64} {x : Int32} (hF : f_X12_within a0 a1 a2 = some x) : cQ l G yX12_within cX12_within 6 (some FieldType.boolean) rm_X12_within [.long a0, .long a1, .long a2] (h) (mQi G (fun r h1 => r = x ∧ h1 = h)) := by
  refine mp_of (by decide +kernel) (Nat.le_of_ble_eq_true rfl) ?_
  intro p e s m below meth c X hr hlk hH hname ls hl
  dsimp only [f_X12_within] at hF
  replace hl : lv_has ls 6 [(0, .long a0), (2, .long a1), (4, .long a2)] := hl
  refine lv_lload_n X.x X.b (dk DX12_within_0 0 rfl) rfl (lv_at hl 0 rfl) ?_
  refine lv_lload_n X.x X.b (dk DX12_within_0 1 rfl) rfl (lv_at hl 1 rfl) ?_
  refine W.lcmp X.x X.b (dk DX12_within_0 2 rfl) ?_
  refine lv_if_lt (tgt := 17) X.x X.b (dk DX12_within_0 3 rfl) (by decide) (fun c1 => ?_) (fun c1 => ?_)
  · replace hF := if_t hF c1
    refine lv_iconst (v := 0) X.x X.b (dk DX12_within_0 10 rfl) (by decide) ?_
    cases sm hF
    exact mr_zret X hr hlk hH rfl ⟨rfl, rfl⟩ (dk DX12_within_0 11 rfl)
  · replace hF := if_f hF c1
    refine lv_lload_n X.x X.b (dk DX12_within_0 4 rfl) rfl (lv_at hl 0 rfl) ?_
    refine lv_lload X.x X.b (dk DX12_within_0 5 rfl) (lv_at hl 2 rfl) ?_
    refine W.lcmp X.x X.b (dk DX12_within_0 6 rfl) ?_
    refine lv_if_gt (tgt := 17) X.x X.b (dk DX12_within_0 7 rfl) (by decide) (fun c2 => ?_) (fun c2 => ?_)
    · replace hF := if_t hF c2
      refine lv_iconst (v := 0) X.x X.b (dk DX12_within_0 10 rfl) (by decide) ?_
      cases sm hF
      exact mr_zret X hr hlk hH rfl ⟨rfl, rfl⟩ (dk DX12_within_0 11 rfl)
    · replace hF := if_f hF c2
      refine lv_iconst (v := 1) X.x X.b (dk DX12_within_0 8 rfl) (by decide) ?_
      refine lv_goto (tgt := 18) X.x X.b (dk DX12_within_0 9 rfl) (by decide) ?_
      cases sm hF
      exact mr_zret X hr hlk hH rfl ⟨rfl, rfl⟩ (dk DX12_within_0 11 rfl)
-- X12_has
abbrev rm_X12_has : Room := { frames := 0, cells := 0, slots := 0, locals := 0 }
theorem hd_X12_has : mHd yX12_has 2 := ⟨by decide +kernel, by decide +kernel, by decide +kernel⟩
theorem DX12_has_0 : ∀ t ∈ ([(0, .lload_n 0, 1), (1, .iload_n 2, 1), (2, .lshr, 1), (3, .lconst 1, 1), (4, .land, 1), (5, .lconst 1, 1), (6, .lcmp, 1), (7, .ifCond .ne 7, 3), (10, .iconst 1, 1), (11, .goto 4, 3), (14, .iconst 0, 1), (15, .ireturn, 1)] : List (Nat × Instr × Nat)), decode cX12_has t.1 = .ok (t.2.1, t.2.2) := by decide +kernel
noncomputable def f_X12_has (a0 : Int64) (a1 : Int32) : Option (Int32) := (if (lg_cmp ((((a0 : Int64)) >>> ((a1 : Int32).toInt64 &&& 63)) &&& 1) 1) = 0 then some 1 else some 0)
set_option maxHeartbeats 4000000 in
set_option maxRecDepth 100000 in
theorem c_X12_has {l : Launch} {G : mG} {h : mM}  {a0 : Int64} {a1 : Int32} {x : Int32} (hF : f_X12_has a0 a1 = some x) : cQ l G yX12_has cX12_has 3 (some FieldType.boolean) rm_X12_has [.long a0, .int a1] (h) (mQi G (fun r h1 => r = x ∧ h1 = h)) := by
  refine mp_of (by decide +kernel) (Nat.le_of_ble_eq_true rfl) ?_
  intro p e s m below meth c X hr hlk hH hname ls hl
  dsimp only [f_X12_has] at hF
  replace hl : lv_has ls 3 [(0, .long a0), (2, .int a1)] := hl
  refine lv_lload_n X.x X.b (dk DX12_has_0 0 rfl) rfl (lv_at hl 0 rfl) ?_
  refine lv_iload_n X.x X.b (dk DX12_has_0 1 rfl) rfl (lv_at hl 1 rfl) ?_
  refine lv_lshr X.x X.b (dk DX12_has_0 2 rfl) rfl ?_
  refine lv_lconst (v := 1) X.x X.b (dk DX12_has_0 3 rfl) (by decide) ?_
  refine lv_land X.x X.b (dk DX12_has_0 4 rfl) ?_
  refine lv_lconst (v := 1) X.x X.b (dk DX12_has_0 5 rfl) (by decide) ?_
  refine W.lcmp X.x X.b (dk DX12_has_0 6 rfl) ?_
  refine lv_if_ne (tgt := 14) X.x X.b (dk DX12_has_0 7 rfl) (by decide) (fun c1 => ?_) (fun c1 => ?_)
  · replace hF := if_f hF c1
    refine lv_iconst (v := 0) X.x X.b (dk DX12_has_0 10 rfl) (by decide) ?_
    cases sm hF
    exact mr_zret X hr hlk hH rfl ⟨rfl, rfl⟩ (dk DX12_has_0 11 rfl)
  · replace hF := if_t hF c1
    refine lv_iconst (v := 1) X.x X.b (dk DX12_has_0 8 rfl) (by decide) ?_
    refine lv_goto (tgt := 15) X.x X.b (dk DX12_has_0 9 rfl) (by decide) ?_
    cases sm hF
    exact mr_zret X hr hlk hH rfl ⟨rfl, rfl⟩ (dk DX12_has_0 11 rfl)
-- X12_bit
abbrev rm_X12_bit : Room := { frames := 0, cells := 0, slots := 0, locals := 0 }
theorem hd_X12_bit : mHd yX12_bit 1 := ⟨by decide +kernel, by decide +kernel, by decide +kernel⟩
theorem DX12_bit_0 : ∀ t ∈ ([(0, .lconst 1, 1), (1, .iload_n 0, 1), (2, .lshl, 1), (3, .lreturn, 1)] : List (Nat × Instr × Nat)), decode cX12_bit t.1 = .ok (t.2.1, t.2.2) := by decide +kernel
noncomputable def f_X12_bit (a0 : Int32) : Option (Int64) := some (((1 : Int64)) <<< ((a0 : Int32).toInt64 &&& 63))
set_option maxHeartbeats 4000000 in
set_option maxRecDepth 100000 in
theorem c_X12_bit {l : Launch} {G : mG} {h : mM}  {a0 : Int32} {x : Int64} (hF : f_X12_bit a0 = some x) : cQ l G yX12_bit cX12_bit 1 (some FieldType.long) rm_X12_bit [.int a0] (h) (mQl G (fun r h1 => r = x ∧ h1 = h)) := by
  refine mp_of (by decide +kernel) (Nat.le_of_ble_eq_true rfl) ?_
  intro p e s m below meth c X hr hlk hH hname ls hl
  dsimp only [f_X12_bit] at hF
  replace hl : lv_has ls 1 [(0, .int a0)] := hl
  refine lv_lconst (v := 1) X.x X.b (dk DX12_bit_0 0 rfl) (by decide) ?_
  refine lv_iload_n X.x X.b (dk DX12_bit_0 1 rfl) rfl (lv_at hl 0 rfl) ?_
  refine lv_lshl X.x X.b (dk DX12_bit_0 2 rfl) rfl ?_
  cases sm hF
  exact mr_lret X hr hlk hH ⟨rfl, rfl⟩ (dk DX12_bit_0 3 rfl)
-- X12_ones
abbrev rm_X12_ones : Room := { frames := 0, cells := 0, slots := 0, locals := 0 }
theorem hd_X12_ones : mHd yX12_ones 1 := ⟨by decide +kernel, by decide +kernel, by decide +kernel⟩
theorem DX12_ones_0 : ∀ t ∈ ([(0, .iconst 0, 1), (1, .istore_n 2, 1), (2, .lload_n 0, 1), (3, .lstore_n 3, 1), (4, .lload_n 3, 1), (5, .lconst 0, 1), (6, .lcmp, 1), (7, .ifCond .eq 15, 3), (10, .iinc 2 1, 3), (13, .lload_n 3, 1), (14, .lload_n 3, 1), (15, .lconst 1, 1), (16, .lsub, 1), (17, .land, 1), (18, .lstore_n 3, 1), (19, .goto (-15), 3), (22, .iload_n 2, 1), (23, .ireturn, 1)] : List (Nat × Instr × Nat)), decode cX12_ones t.1 = .ok (t.2.1, t.2.2) := by decide +kernel
noncomputable def f_X12_ones_4 : (Int32 × Int64) → Option ((Int32 × Int64) ⊕ (Int32)) := fun z => match z with | (b2, b3) => (if (lg_cmp b3 0) = 0 then some (.inr b2) else bnd (b2 + 1 : Int32) (fun v2 => bnd (b3 &&& (b3 - 1) : Int64) (fun v4 => some (.inl ((v2, v4))))))
noncomputable def f_X12_ones (a0 : Int64) : Option (Int32) := (lpv (f_X12_ones_4) ((0, a0))).bind (fun x6 => some x6)
set_option maxHeartbeats 4000000 in
set_option maxRecDepth 100000 in
theorem w_X12_ones_4 {p : Program} {l : Launch} {e : Env} {s : State} {m : MethodId} {args : Array Value} {below : List Frame} {meth : Method} {c : Code} {Q : State → Prop} {G : mG} {h : mM}  (X : mX G p m c cX12_ones 5 s args RX12) : ∀ (z : Int32 × Int64) (r : Int32), lpv (f_X12_ones_4) z = some r → ∀ (H : Heap) (locs : List Loc) (ls : Array Slot), mH G (h) s.heap H locs → lv_has ls 5 [(2, .int z.1), (3, .long z.2)] → (∀ (H : Heap) (locs : List Loc) (ls : Array Slot), mH G (h) s.heap H locs → lv_has ls 5 [(2, .int r)] → W p l e rm_X12_ones s m args below meth c H locs 0 0 Q (F0 m 22 ls [])) → W p l e rm_X12_ones s m args below meth c H locs 0 0 Q (F0 m 4 ls []) := by
  refine lpv_rec ?_
  intro z r x hF hx H locs ls hH hl K0
  obtain ⟨b2, b3⟩ := z
  dsimp only [f_X12_ones_4] at hF
  try dsimp only at hH hl
  refine lv_lload_n X.x X.b (dk DX12_ones_0 4 rfl) rfl (lv_at hl 1 rfl) ?_
  refine lv_lconst (v := 0) X.x X.b (dk DX12_ones_0 5 rfl) (by decide) ?_
  refine W.lcmp X.x X.b (dk DX12_ones_0 6 rfl) ?_
  refine lv_if_eq (tgt := 22) X.x X.b (dk DX12_ones_0 7 rfl) (by decide) (fun c1 => ?_) (fun c1 => ?_)
  · replace hF := if_t hF c1
    have hr9 := lp_r hF hx
    subst hr9
    exact K0 _ _ _ hH (lv_sub hl [0] rfl)
  · replace hF := if_f hF c1
    obtain ⟨v2, e3⟩ : ∃ y : Int32, y = b2 + 1 := ⟨_, rfl⟩
    replace hF := bnd_e hF e3
    refine lv_iinc (v := v2) (lv' := [(2, .int v2), (3, .long b3)]) X.x X.b (dk DX12_ones_0 8 rfl) hl (k := 0) rfl (by rw [e3]; rfl) (by decide) rfl (fun ls hl => ?_)
    replace hl : lv_has ls 5 [(2, .int v2), (3, .long b3)] := lv_sub hl [0, 1] rfl
    refine lv_lload_n X.x X.b (dk DX12_ones_0 9 rfl) rfl (lv_at hl 1 rfl) ?_
    refine lv_lload_n X.x X.b (dk DX12_ones_0 10 rfl) rfl (lv_at hl 1 rfl) ?_
    refine lv_lconst (v := 1) X.x X.b (dk DX12_ones_0 11 rfl) (by decide) ?_
    refine lv_lsub X.x X.b (dk DX12_ones_0 12 rfl) ?_
    refine lv_land X.x X.b (dk DX12_ones_0 13 rfl) ?_
    refine lv_topl (fun v4 e5 => ?_)
    replace hF := bnd_e hF e5
    refine lv_lstore_n (lv' := [(3, .long v4), (2, .int v2)]) X.x X.b (dk DX12_ones_0 14 rfl) rfl hl (by decide) rfl (fun ls hl => ?_)
    replace hl : lv_has ls 5 [(2, .int v2), (3, .long v4)] := lv_sub hl [1, 0] rfl
    refine lv_goto (tgt := 4) X.x X.b (dk DX12_ones_0 15 rfl) (by decide) ?_
    exact (lp_l hF hx) _ _ _ hH (lv_sub hl [0, 1] rfl) K0
set_option maxHeartbeats 4000000 in
set_option maxRecDepth 100000 in
theorem c_X12_ones {l : Launch} {G : mG} {h : mM}  {a0 : Int64} {x : Int32} (hF : f_X12_ones a0 = some x) : cQ l G yX12_ones cX12_ones 5 (some FieldType.int) rm_X12_ones [.long a0] (h) (mQi G (fun r h1 => r = x ∧ h1 = h)) := by
  refine mp_of (by decide +kernel) (Nat.le_of_ble_eq_true rfl) ?_
  intro p e s m below meth c X hr hlk hH hname ls hl
  dsimp only [f_X12_ones] at hF
  replace hl : lv_has ls 5 [(0, .long a0)] := hl
  refine lv_iconst (v := 0) X.x X.b (dk DX12_ones_0 0 rfl) (by decide) ?_
  refine lv_istore_n (lv' := [(2, .int 0), (0, .long a0)]) X.x X.b (dk DX12_ones_0 1 rfl) rfl hl (by decide) rfl (fun ls hl => ?_)
  replace hl : lv_has ls 5 [(0, .long a0), (2, .int 0)] := lv_sub hl [1, 0] rfl
  refine lv_lload_n X.x X.b (dk DX12_ones_0 2 rfl) rfl (lv_at hl 0 rfl) ?_
  refine lv_lstore_n (lv' := [(3, .long a0), (0, .long a0), (2, .int 0)]) X.x X.b (dk DX12_ones_0 3 rfl) rfl hl (by decide) rfl (fun ls hl => ?_)
  replace hl : lv_has ls 5 [(2, .int 0), (3, .long a0)] := lv_sub hl [2, 0] rfl
  obtain ⟨x6, e7, hF⟩ := bd hF
  replace hl : lv_has ls 5 [(2, .int 0), (3, .long a0)] := lv_sub hl [0, 1] rfl
  refine w_X12_ones_4 X _ _ e7 _ _ _ hH hl (fun H locs ls hH hl => ?_)
  refine lv_iload_n X.x X.b (dk DX12_ones_0 16 rfl) rfl (lv_at hl 0 rfl) ?_
  cases sm hF
  exact mr_iret X hr hlk hH ⟨rfl, rfl⟩ (dk DX12_ones_0 17 rfl)
-- X12_allOf
abbrev rm_X12_allOf : Room := { frames := 1, cells := 0, slots := 0, locals := 20 }
theorem hd_X12_allOf : mHd yX12_allOf 1 := ⟨by decide +kernel, by decide +kernel, by decide +kernel⟩
theorem DX12_allOf_0 : ∀ t ∈ ([(0, .iload_n 0, 1), (1, .bipush 64, 2), (3, .if_icmp .ne 9, 3), (6, .ldc2_w 109, 3), (9, .goto 9, 3), (12, .iload_n 0, 1), (13, .invokestatic 111, 3), (16, .lconst 1, 1), (17, .lsub, 1), (18, .lreturn, 1)] : List (Nat × Instr × Nat)), decode cX12_allOf t.1 = .ok (t.2.1, t.2.2) := by decide +kernel
noncomputable def f_X12_allOf (a0 : Int32) : Option (Int64) := (if a0 = 64 then some ((-1)) else (f_X12_bit a0).bind (fun x2 => some (x2 - 1)))
set_option maxHeartbeats 4000000 in
set_option maxRecDepth 100000 in
theorem c_X12_allOf {l : Launch} {G : mG} {h : mM}  {a0 : Int32} {x : Int64} (hF : f_X12_allOf a0 = some x) : cQ l G yX12_allOf cX12_allOf 1 (some FieldType.long) rm_X12_allOf [.int a0] (h) (mQl G (fun r h1 => r = x ∧ h1 = h)) := by
  refine mp_of (by decide +kernel) (Nat.le_of_ble_eq_true rfl) ?_
  intro p e s m below meth c X hr hlk hH hname ls hl
  dsimp only [f_X12_allOf] at hF
  replace hl : lv_has ls 1 [(0, .int a0)] := hl
  refine lv_iload_n X.x X.b (dk DX12_allOf_0 0 rfl) rfl (lv_at hl 0 rfl) ?_
  refine lv_bipush (v := 64) X.x X.b (dk DX12_allOf_0 1 rfl) (by decide) ?_
  refine lv_icmp_ne (tgt := 12) X.x X.b (dk DX12_allOf_0 2 rfl) (by decide) (fun c1 => ?_) (fun c1 => ?_)
  · replace hF := if_f hF c1
    refine lv_iload_n X.x X.b (dk DX12_allOf_0 5 rfl) rfl (lv_at hl 0 rfl) ?_
    obtain ⟨x2, e3, hF⟩ := bd hF
    refine mr_cl0 hH ⟨rfl, rfl⟩ (mr_runS (As := [.int a0]) (rest := []) X hH (c_X12_bit e3) kM_X12_111 kT_X12_bit kN_X12 kC_X12_bit hd_X12_bit ⟨Nat.le_of_ble_eq_true rfl, Nat.le_of_ble_eq_true rfl⟩ rfl hl.1 (Nat.le_of_ble_eq_true rfl) (dk DX12_allOf_0 6 rfl) ⟨Nat.zero_le _, Nat.zero_le _⟩) (fun r h1 H locs hp hH => ?_)
    obtain ⟨hr1, hr2⟩ := hp; rw [hr1]; rw [hr2] at hH; clear hr1 hr2
    refine lv_lconst (v := 1) X.x X.b (dk DX12_allOf_0 7 rfl) (by decide) ?_
    refine lv_lsub X.x X.b (dk DX12_allOf_0 8 rfl) ?_
    cases sm hF
    exact mr_lret X hr hlk hH ⟨rfl, rfl⟩ (dk DX12_allOf_0 9 rfl)
  · replace hF := if_t hF c1
    refine lv_ldc2 (v := (-1)) X.x X.b X.ow (X.ts _ kK_X12_109) (dk DX12_allOf_0 3 rfl) ?_
    refine lv_goto (tgt := 18) X.x X.b (dk DX12_allOf_0 4 rfl) (by decide) ?_
    cases sm hF
    exact mr_lret X hr hlk hH ⟨rfl, rfl⟩ (dk DX12_allOf_0 9 rfl)
-- X12_feed
abbrev rm_X12_feed : Room := { frames := 0, cells := 0, slots := 0, locals := 0 }
theorem hd_X12_feed : mHd yX12_feed 5 := ⟨by decide +kernel, by decide +kernel, by decide +kernel⟩
theorem DX12_feed_0 : ∀ t ∈ ([(0, .aload_n 0, 1), (1, .iconst 0, 1), (2, .putfield 106, 3), (5, .aload_n 0, 1), (6, .getfield 115, 3), (9, .bipush 20, 2), (11, .iadd, 1), (12, .sipush 700, 3), (15, .if_icmp .le 5, 3), (18, .iconst (-1), 1), (19, .ireturn, 1), (20, .iconst 0, 1), (21, .istore 6, 2), (23, .iload 6, 2), (25, .bipush 20, 2), (27, .if_icmp .ge 93, 3), (30, .iload 6, 2), (32, .iconst 4, 1), (33, .if_icmp .ge 7, 3), (36, .iload_n 1, 1), (37, .goto 39, 3), (40, .iload 6, 2), (42, .bipush 8, 2), (44, .if_icmp .ge 7, 3), (47, .iload_n 2, 1), (48, .goto 28, 3), (51, .iload 6, 2), (53, .bipush 12, 2), (55, .if_icmp .ge 7, 3), (58, .iload_n 3, 1), (59, .goto 17, 3), (62, .iload 6, 2), (64, .bipush 16, 2), (66, .if_icmp .ge 8, 3), (69, .iload 4, 2), (71, .goto 5, 3), (74, .iload 5, 2), (76, .istore 7, 2), (78, .aload_n 0, 1), (79, .getfield 13, 3), (82, .aload_n 0, 1), (83, .getfield 115, 3), (86, .iload 7, 2), (88, .bipush 24, 2), (90, .bipush 8, 2), (92, .iload 6, 2), (94, .iconst 3, 1), (95, .iand, 1), (96, .imul, 1), (97, .isub, 1), (98, .iushr, 1), (99, .sipush 255, 3), (102, .iand, 1), (103, .iastore, 1), (104, .aload_n 0, 1), (105, .dup, 1), (106, .getfield 115, 3), (109, .iconst 1, 1), (110, .iadd, 1), (111, .putfield 115, 3)] : List (Nat × Instr × Nat)), decode cX12_feed t.1 = .ok (t.2.1, t.2.2) := by decide +kernel
theorem DX12_feed_1 : ∀ t ∈ ([(114, .iinc 6 1, 3), (117, .goto (-94), 3), (120, .aload_n 0, 1), (121, .getfield 115, 3), (124, .ireturn, 1)] : List (Nat × Instr × Nat)), decode cX12_feed t.1 = .ok (t.2.1, t.2.2) := by decide +kernel
noncomputable def f_X12_feed_23 (b1 : Int32) (b2 : Int32) (b3 : Int32) (b4 : Int32) (b5 : Int32) : (OS × Int32) → Option ((OS × Int32) ⊕ (OS)) := fun z => match z with | (s_t, b6) => (if 20 ≤ b6 then some (.inr s_t) else (if 4 ≤ b6 then (if 8 ≤ b6 then (if 12 ≤ b6 then (if 16 ≤ b6 then if inb (s_t.1 5) 700 = true then bnd (oA s_t 4 (upd (s_t.2.2.1 4) (s_t.1 5 : Int32).toNatClampNeg (((b5.toUInt32 >>> (((24 : Int32) - ((8 : Int32) * (b6 &&& 3)) : Int32).toUInt32 &&& Int32.toUInt32 31)).toInt32) &&& 255))) (fun t10 => bnd (oI t10 5 ((t10.1 5) + 1)) (fun t12 => bnd (b6 + 1 : Int32) (fun v14 => some (.inl ((t12, v14)))))) else none else if inb (s_t.1 5) 700 = true then bnd (oA s_t 4 (upd (s_t.2.2.1 4) (s_t.1 5 : Int32).toNatClampNeg (((b4.toUInt32 >>> (((24 : Int32) - ((8 : Int32) * (b6 &&& 3)) : Int32).toUInt32 &&& Int32.toUInt32 31)).toInt32) &&& 255))) (fun t17 => bnd (oI t17 5 ((t17.1 5) + 1)) (fun t19 => bnd (b6 + 1 : Int32) (fun v21 => some (.inl ((t19, v21)))))) else none) else if inb (s_t.1 5) 700 = true then bnd (oA s_t 4 (upd (s_t.2.2.1 4) (s_t.1 5 : Int32).toNatClampNeg (((b3.toUInt32 >>> (((24 : Int32) - ((8 : Int32) * (b6 &&& 3)) : Int32).toUInt32 &&& Int32.toUInt32 31)).toInt32) &&& 255))) (fun t24 => bnd (oI t24 5 ((t24.1 5) + 1)) (fun t26 => bnd (b6 + 1 : Int32) (fun v28 => some (.inl ((t26, v28)))))) else none) else if inb (s_t.1 5) 700 = true then bnd (oA s_t 4 (upd (s_t.2.2.1 4) (s_t.1 5 : Int32).toNatClampNeg (((b2.toUInt32 >>> (((24 : Int32) - ((8 : Int32) * (b6 &&& 3)) : Int32).toUInt32 &&& Int32.toUInt32 31)).toInt32) &&& 255))) (fun t31 => bnd (oI t31 5 ((t31.1 5) + 1)) (fun t33 => bnd (b6 + 1 : Int32) (fun v35 => some (.inl ((t33, v35)))))) else none) else if inb (s_t.1 5) 700 = true then bnd (oA s_t 4 (upd (s_t.2.2.1 4) (s_t.1 5 : Int32).toNatClampNeg (((b1.toUInt32 >>> (((24 : Int32) - ((8 : Int32) * (b6 &&& 3)) : Int32).toUInt32 &&& Int32.toUInt32 31)).toInt32) &&& 255))) (fun t38 => bnd (oI t38 5 ((t38.1 5) + 1)) (fun t40 => bnd (b6 + 1 : Int32) (fun v42 => some (.inl ((t40, v42)))))) else none))
noncomputable def f_X12_feed (st : OS) (a0 : Int32) (a1 : Int32) (a2 : Int32) (a3 : Int32) (a4 : Int32) : Option (Int32 × OS) := bnd (oI st 2 0) (fun t1 => (if (t1.1 5) + 20 ≤ 700 then (lpv (f_X12_feed_23 a0 a1 a2 a3 a4) ((t1, 0))).bind (fun x44 => some ((x44.1 5, x44))) else some (((-1), t1))))
set_option maxHeartbeats 4000000 in
set_option maxRecDepth 100000 in
theorem w_X12_feed_23 {p : Program} {l : Launch} {e : Env} {s : State} {m : MethodId} {args : Array Value} {below : List Frame} {meth : Method} {c : Code} {Q : State → Prop} {G : mG} {h : mM} {q : Nat → Nat} (hq : oinj LX12 q) (X : mX G p m c cX12_feed 8 s args RX12) (b1 : Int32) (b2 : Int32) (b3 : Int32) (b4 : Int32) (b5 : Int32) : ∀ (z : OS × Int32) (r : OS), lpv (f_X12_feed_23 b1 b2 b3 b4 b5) z = some r → ∀ (H : Heap) (locs : List Loc) (ls : Array Slot), mH G (oset LX12 G q z.1 h) s.heap H locs → lv_has ls 8 [(0, .ref (q 53)), (1, .int b1), (2, .int b2), (3, .int b3), (4, .int b4), (5, .int b5), (6, .int z.2)] → (∀ (H : Heap) (locs : List Loc) (ls : Array Slot), mH G (oset LX12 G q r h) s.heap H locs → lv_has ls 8 [(0, .ref (q 53))] → W p l e rm_X12_feed s m args below meth c H locs 0 0 Q (F0 m 120 ls [])) → W p l e rm_X12_feed s m args below meth c H locs 0 0 Q (F0 m 23 ls []) := by
  refine lpv_rec ?_
  intro z r x hF hx H locs ls hH hl K0
  obtain ⟨s_t, b6⟩ := z
  dsimp only [f_X12_feed_23] at hF
  try dsimp only at hH hl
  refine lv_iload X.x X.b (dk DX12_feed_0 13 rfl) (lv_at hl 6 rfl) ?_
  refine lv_bipush (v := 20) X.x X.b (dk DX12_feed_0 14 rfl) (by decide) ?_
  refine lv_icmp_ge (tgt := 120) X.x X.b (dk DX12_feed_0 15 rfl) (by decide) (fun c4 => ?_) (fun c4 => ?_)
  · replace hF := if_t hF c4
    have hr9 := lp_r hF hx
    subst hr9
    exact K0 _ _ _ hH (lv_sub hl [0] rfl)
  · replace hF := if_f hF c4
    refine lv_iload X.x X.b (dk DX12_feed_0 16 rfl) (lv_at hl 6 rfl) ?_
    refine lv_iconst (v := 4) X.x X.b (dk DX12_feed_0 17 rfl) (by decide) ?_
    refine lv_icmp_ge (tgt := 40) X.x X.b (dk DX12_feed_0 18 rfl) (by decide) (fun c5 => ?_) (fun c5 => ?_)
    · replace hF := if_t hF c5
      refine lv_iload X.x X.b (dk DX12_feed_0 21 rfl) (lv_at hl 6 rfl) ?_
      refine lv_bipush (v := 8) X.x X.b (dk DX12_feed_0 22 rfl) (by decide) ?_
      refine lv_icmp_ge (tgt := 51) X.x X.b (dk DX12_feed_0 23 rfl) (by decide) (fun c6 => ?_) (fun c6 => ?_)
      · replace hF := if_t hF c6
        refine lv_iload X.x X.b (dk DX12_feed_0 26 rfl) (lv_at hl 6 rfl) ?_
        refine lv_bipush (v := 12) X.x X.b (dk DX12_feed_0 27 rfl) (by decide) ?_
        refine lv_icmp_ge (tgt := 62) X.x X.b (dk DX12_feed_0 28 rfl) (by decide) (fun c7 => ?_) (fun c7 => ?_)
        · replace hF := if_t hF c7
          refine lv_iload X.x X.b (dk DX12_feed_0 31 rfl) (lv_at hl 6 rfl) ?_
          refine lv_bipush (v := 16) X.x X.b (dk DX12_feed_0 32 rfl) (by decide) ?_
          refine lv_icmp_ge (tgt := 74) X.x X.b (dk DX12_feed_0 33 rfl) (by decide) (fun c8 => ?_) (fun c8 => ?_)
          · replace hF := if_t hF c8
            refine lv_iload X.x X.b (dk DX12_feed_0 36 rfl) (lv_at hl 5 rfl) ?_
            refine lv_istore (lv' := [(7, .int b5), (0, .ref (q 53)), (1, .int b1), (2, .int b2), (3, .int b3), (4, .int b4), (5, .int b5), (6, .int b6)]) X.x X.b (dk DX12_feed_0 37 rfl) hl (by decide) rfl (fun ls hl => ?_)
            replace hl : lv_has ls 8 [(0, .ref (q 53)), (1, .int b1), (2, .int b2), (3, .int b3), (4, .int b4), (5, .int b5), (6, .int b6), (7, .int b5)] := lv_sub hl [1, 2, 3, 4, 5, 6, 7, 0] rfl
            refine lv_aload_n X.x X.b (dk DX12_feed_0 38 rfl) rfl (lv_at hl 0 rfl) ?_
            refine og_getR (t := 0) OX12 X hq hH 4 (by decide) rfl kF_X12_13 (dk DX12_feed_0 39 rfl) ?_
            refine lv_aload_n X.x X.b (dk DX12_feed_0 40 rfl) rfl (lv_at hl 0 rfl) ?_
            refine og_getI OX12 X hq hH 5 (by decide) rfl kF_X12_115 (dk DX12_feed_0 41 rfl) ?_
            refine lv_iload X.x X.b (dk DX12_feed_0 42 rfl) (lv_at hl 7 rfl) ?_
            refine lv_bipush (v := 24) X.x X.b (dk DX12_feed_0 43 rfl) (by decide) ?_
            refine lv_bipush (v := 8) X.x X.b (dk DX12_feed_0 44 rfl) (by decide) ?_
            refine lv_iload X.x X.b (dk DX12_feed_0 45 rfl) (lv_at hl 6 rfl) ?_
            refine lv_iconst (v := 3) X.x X.b (dk DX12_feed_0 46 rfl) (by decide) ?_
            refine lv_iand X.x X.b (dk DX12_feed_0 47 rfl) ?_
            refine lv_imul X.x X.b (dk DX12_feed_0 48 rfl) ?_
            refine lv_isub X.x X.b (dk DX12_feed_0 49 rfl) ?_
            refine lv_iushr X.x X.b (dk DX12_feed_0 50 rfl) rfl ?_
            refine lv_sipush (v := 255) X.x X.b (dk DX12_feed_0 51 rfl) (by decide) ?_
            refine lv_iand X.x X.b (dk DX12_feed_0 52 rfl) ?_
            obtain ⟨c9, hF⟩ := gd hF
            refine og_iast X hq hH 4 (by decide) rfl (inb_in c9) (dk DX12_feed_0 53 rfl) (fun H locs hH => ?_)
            obtain ⟨t10, e11⟩ : ∃ y, y = oA s_t 4 (upd (s_t.2.2.1 4) (s_t.1 5 : Int32).toNatClampNeg (((b5.toUInt32 >>> (((24 : Int32) - ((8 : Int32) * (b6 &&& 3)) : Int32).toUInt32 &&& Int32.toUInt32 31)).toInt32) &&& 255)) := ⟨_, rfl⟩
            rw [← e11] at hH
            replace hF := bnd_e hF e11
            refine lv_aload_n X.x X.b (dk DX12_feed_0 54 rfl) rfl (lv_at hl 0 rfl) ?_
            refine lv_dup X.x X.b (dk DX12_feed_0 55 rfl) rfl ?_
            refine og_getI OX12 X hq hH 5 (by decide) rfl kF_X12_115 (dk DX12_feed_0 56 rfl) ?_
            refine lv_iconst (v := 1) X.x X.b (dk DX12_feed_0 57 rfl) (by decide) ?_
            refine lv_iadd X.x X.b (dk DX12_feed_0 58 rfl) ?_
            refine og_putI OX12 X hq hH 5 (by decide) rfl kF_X12_115 rfl rfl rfl (dk DX12_feed_0 59 rfl) (fun H locs hH => ?_)
            obtain ⟨t12, e13⟩ : ∃ y, y = oI t10 5 ((t10.1 5) + 1) := ⟨_, rfl⟩
            rw [← e13] at hH
            replace hF := bnd_e hF e13
            obtain ⟨v14, e15⟩ : ∃ y : Int32, y = b6 + 1 := ⟨_, rfl⟩
            replace hF := bnd_e hF e15
            refine lv_iinc (v := v14) (lv' := [(6, .int v14), (0, .ref (q 53)), (1, .int b1), (2, .int b2), (3, .int b3), (4, .int b4), (5, .int b5), (7, .int b5)]) X.x X.b (dk DX12_feed_1 0 rfl) hl (k := 6) rfl (by rw [e15]; rfl) (by decide) rfl (fun ls hl => ?_)
            replace hl : lv_has ls 8 [(0, .ref (q 53)), (1, .int b1), (2, .int b2), (3, .int b3), (4, .int b4), (5, .int b5), (6, .int v14)] := lv_sub hl [1, 2, 3, 4, 5, 6, 0] rfl
            refine lv_goto (tgt := 23) X.x X.b (dk DX12_feed_1 1 rfl) (by decide) ?_
            exact (lp_l hF hx) _ _ _ hH (lv_sub hl [0, 1, 2, 3, 4, 5, 6] rfl) K0
          · replace hF := if_f hF c8
            refine lv_iload X.x X.b (dk DX12_feed_0 34 rfl) (lv_at hl 4 rfl) ?_
            refine lv_goto (tgt := 76) X.x X.b (dk DX12_feed_0 35 rfl) (by decide) ?_
            refine lv_istore (lv' := [(7, .int b4), (0, .ref (q 53)), (1, .int b1), (2, .int b2), (3, .int b3), (4, .int b4), (5, .int b5), (6, .int b6)]) X.x X.b (dk DX12_feed_0 37 rfl) hl (by decide) rfl (fun ls hl => ?_)
            replace hl : lv_has ls 8 [(0, .ref (q 53)), (1, .int b1), (2, .int b2), (3, .int b3), (4, .int b4), (5, .int b5), (6, .int b6), (7, .int b4)] := lv_sub hl [1, 2, 3, 4, 5, 6, 7, 0] rfl
            refine lv_aload_n X.x X.b (dk DX12_feed_0 38 rfl) rfl (lv_at hl 0 rfl) ?_
            refine og_getR (t := 0) OX12 X hq hH 4 (by decide) rfl kF_X12_13 (dk DX12_feed_0 39 rfl) ?_
            refine lv_aload_n X.x X.b (dk DX12_feed_0 40 rfl) rfl (lv_at hl 0 rfl) ?_
            refine og_getI OX12 X hq hH 5 (by decide) rfl kF_X12_115 (dk DX12_feed_0 41 rfl) ?_
            refine lv_iload X.x X.b (dk DX12_feed_0 42 rfl) (lv_at hl 7 rfl) ?_
            refine lv_bipush (v := 24) X.x X.b (dk DX12_feed_0 43 rfl) (by decide) ?_
            refine lv_bipush (v := 8) X.x X.b (dk DX12_feed_0 44 rfl) (by decide) ?_
            refine lv_iload X.x X.b (dk DX12_feed_0 45 rfl) (lv_at hl 6 rfl) ?_
            refine lv_iconst (v := 3) X.x X.b (dk DX12_feed_0 46 rfl) (by decide) ?_
            refine lv_iand X.x X.b (dk DX12_feed_0 47 rfl) ?_
            refine lv_imul X.x X.b (dk DX12_feed_0 48 rfl) ?_
            refine lv_isub X.x X.b (dk DX12_feed_0 49 rfl) ?_
            refine lv_iushr X.x X.b (dk DX12_feed_0 50 rfl) rfl ?_
            refine lv_sipush (v := 255) X.x X.b (dk DX12_feed_0 51 rfl) (by decide) ?_
            refine lv_iand X.x X.b (dk DX12_feed_0 52 rfl) ?_
            obtain ⟨c16, hF⟩ := gd hF
            refine og_iast X hq hH 4 (by decide) rfl (inb_in c16) (dk DX12_feed_0 53 rfl) (fun H locs hH => ?_)
            obtain ⟨t17, e18⟩ : ∃ y, y = oA s_t 4 (upd (s_t.2.2.1 4) (s_t.1 5 : Int32).toNatClampNeg (((b4.toUInt32 >>> (((24 : Int32) - ((8 : Int32) * (b6 &&& 3)) : Int32).toUInt32 &&& Int32.toUInt32 31)).toInt32) &&& 255)) := ⟨_, rfl⟩
            rw [← e18] at hH
            replace hF := bnd_e hF e18
            refine lv_aload_n X.x X.b (dk DX12_feed_0 54 rfl) rfl (lv_at hl 0 rfl) ?_
            refine lv_dup X.x X.b (dk DX12_feed_0 55 rfl) rfl ?_
            refine og_getI OX12 X hq hH 5 (by decide) rfl kF_X12_115 (dk DX12_feed_0 56 rfl) ?_
            refine lv_iconst (v := 1) X.x X.b (dk DX12_feed_0 57 rfl) (by decide) ?_
            refine lv_iadd X.x X.b (dk DX12_feed_0 58 rfl) ?_
            refine og_putI OX12 X hq hH 5 (by decide) rfl kF_X12_115 rfl rfl rfl (dk DX12_feed_0 59 rfl) (fun H locs hH => ?_)
            obtain ⟨t19, e20⟩ : ∃ y, y = oI t17 5 ((t17.1 5) + 1) := ⟨_, rfl⟩
            rw [← e20] at hH
            replace hF := bnd_e hF e20
            obtain ⟨v21, e22⟩ : ∃ y : Int32, y = b6 + 1 := ⟨_, rfl⟩
            replace hF := bnd_e hF e22
            refine lv_iinc (v := v21) (lv' := [(6, .int v21), (0, .ref (q 53)), (1, .int b1), (2, .int b2), (3, .int b3), (4, .int b4), (5, .int b5), (7, .int b4)]) X.x X.b (dk DX12_feed_1 0 rfl) hl (k := 6) rfl (by rw [e22]; rfl) (by decide) rfl (fun ls hl => ?_)
            replace hl : lv_has ls 8 [(0, .ref (q 53)), (1, .int b1), (2, .int b2), (3, .int b3), (4, .int b4), (5, .int b5), (6, .int v21)] := lv_sub hl [1, 2, 3, 4, 5, 6, 0] rfl
            refine lv_goto (tgt := 23) X.x X.b (dk DX12_feed_1 1 rfl) (by decide) ?_
            exact (lp_l hF hx) _ _ _ hH (lv_sub hl [0, 1, 2, 3, 4, 5, 6] rfl) K0
        · replace hF := if_f hF c7
          refine lv_iload_n X.x X.b (dk DX12_feed_0 29 rfl) rfl (lv_at hl 3 rfl) ?_
          refine lv_goto (tgt := 76) X.x X.b (dk DX12_feed_0 30 rfl) (by decide) ?_
          refine lv_istore (lv' := [(7, .int b3), (0, .ref (q 53)), (1, .int b1), (2, .int b2), (3, .int b3), (4, .int b4), (5, .int b5), (6, .int b6)]) X.x X.b (dk DX12_feed_0 37 rfl) hl (by decide) rfl (fun ls hl => ?_)
          replace hl : lv_has ls 8 [(0, .ref (q 53)), (1, .int b1), (2, .int b2), (3, .int b3), (4, .int b4), (5, .int b5), (6, .int b6), (7, .int b3)] := lv_sub hl [1, 2, 3, 4, 5, 6, 7, 0] rfl
          refine lv_aload_n X.x X.b (dk DX12_feed_0 38 rfl) rfl (lv_at hl 0 rfl) ?_
          refine og_getR (t := 0) OX12 X hq hH 4 (by decide) rfl kF_X12_13 (dk DX12_feed_0 39 rfl) ?_
          refine lv_aload_n X.x X.b (dk DX12_feed_0 40 rfl) rfl (lv_at hl 0 rfl) ?_
          refine og_getI OX12 X hq hH 5 (by decide) rfl kF_X12_115 (dk DX12_feed_0 41 rfl) ?_
          refine lv_iload X.x X.b (dk DX12_feed_0 42 rfl) (lv_at hl 7 rfl) ?_
          refine lv_bipush (v := 24) X.x X.b (dk DX12_feed_0 43 rfl) (by decide) ?_
          refine lv_bipush (v := 8) X.x X.b (dk DX12_feed_0 44 rfl) (by decide) ?_
          refine lv_iload X.x X.b (dk DX12_feed_0 45 rfl) (lv_at hl 6 rfl) ?_
          refine lv_iconst (v := 3) X.x X.b (dk DX12_feed_0 46 rfl) (by decide) ?_
          refine lv_iand X.x X.b (dk DX12_feed_0 47 rfl) ?_
          refine lv_imul X.x X.b (dk DX12_feed_0 48 rfl) ?_
          refine lv_isub X.x X.b (dk DX12_feed_0 49 rfl) ?_
          refine lv_iushr X.x X.b (dk DX12_feed_0 50 rfl) rfl ?_
          refine lv_sipush (v := 255) X.x X.b (dk DX12_feed_0 51 rfl) (by decide) ?_
          refine lv_iand X.x X.b (dk DX12_feed_0 52 rfl) ?_
          obtain ⟨c23, hF⟩ := gd hF
          refine og_iast X hq hH 4 (by decide) rfl (inb_in c23) (dk DX12_feed_0 53 rfl) (fun H locs hH => ?_)
          obtain ⟨t24, e25⟩ : ∃ y, y = oA s_t 4 (upd (s_t.2.2.1 4) (s_t.1 5 : Int32).toNatClampNeg (((b3.toUInt32 >>> (((24 : Int32) - ((8 : Int32) * (b6 &&& 3)) : Int32).toUInt32 &&& Int32.toUInt32 31)).toInt32) &&& 255)) := ⟨_, rfl⟩
          rw [← e25] at hH
          replace hF := bnd_e hF e25
          refine lv_aload_n X.x X.b (dk DX12_feed_0 54 rfl) rfl (lv_at hl 0 rfl) ?_
          refine lv_dup X.x X.b (dk DX12_feed_0 55 rfl) rfl ?_
          refine og_getI OX12 X hq hH 5 (by decide) rfl kF_X12_115 (dk DX12_feed_0 56 rfl) ?_
          refine lv_iconst (v := 1) X.x X.b (dk DX12_feed_0 57 rfl) (by decide) ?_
          refine lv_iadd X.x X.b (dk DX12_feed_0 58 rfl) ?_
          refine og_putI OX12 X hq hH 5 (by decide) rfl kF_X12_115 rfl rfl rfl (dk DX12_feed_0 59 rfl) (fun H locs hH => ?_)
          obtain ⟨t26, e27⟩ : ∃ y, y = oI t24 5 ((t24.1 5) + 1) := ⟨_, rfl⟩
          rw [← e27] at hH
          replace hF := bnd_e hF e27
          obtain ⟨v28, e29⟩ : ∃ y : Int32, y = b6 + 1 := ⟨_, rfl⟩
          replace hF := bnd_e hF e29
          refine lv_iinc (v := v28) (lv' := [(6, .int v28), (0, .ref (q 53)), (1, .int b1), (2, .int b2), (3, .int b3), (4, .int b4), (5, .int b5), (7, .int b3)]) X.x X.b (dk DX12_feed_1 0 rfl) hl (k := 6) rfl (by rw [e29]; rfl) (by decide) rfl (fun ls hl => ?_)
          replace hl : lv_has ls 8 [(0, .ref (q 53)), (1, .int b1), (2, .int b2), (3, .int b3), (4, .int b4), (5, .int b5), (6, .int v28)] := lv_sub hl [1, 2, 3, 4, 5, 6, 0] rfl
          refine lv_goto (tgt := 23) X.x X.b (dk DX12_feed_1 1 rfl) (by decide) ?_
          exact (lp_l hF hx) _ _ _ hH (lv_sub hl [0, 1, 2, 3, 4, 5, 6] rfl) K0
      · replace hF := if_f hF c6
        refine lv_iload_n X.x X.b (dk DX12_feed_0 24 rfl) rfl (lv_at hl 2 rfl) ?_
        refine lv_goto (tgt := 76) X.x X.b (dk DX12_feed_0 25 rfl) (by decide) ?_
        refine lv_istore (lv' := [(7, .int b2), (0, .ref (q 53)), (1, .int b1), (2, .int b2), (3, .int b3), (4, .int b4), (5, .int b5), (6, .int b6)]) X.x X.b (dk DX12_feed_0 37 rfl) hl (by decide) rfl (fun ls hl => ?_)
        replace hl : lv_has ls 8 [(0, .ref (q 53)), (1, .int b1), (2, .int b2), (3, .int b3), (4, .int b4), (5, .int b5), (6, .int b6), (7, .int b2)] := lv_sub hl [1, 2, 3, 4, 5, 6, 7, 0] rfl
        refine lv_aload_n X.x X.b (dk DX12_feed_0 38 rfl) rfl (lv_at hl 0 rfl) ?_
        refine og_getR (t := 0) OX12 X hq hH 4 (by decide) rfl kF_X12_13 (dk DX12_feed_0 39 rfl) ?_
        refine lv_aload_n X.x X.b (dk DX12_feed_0 40 rfl) rfl (lv_at hl 0 rfl) ?_
        refine og_getI OX12 X hq hH 5 (by decide) rfl kF_X12_115 (dk DX12_feed_0 41 rfl) ?_
        refine lv_iload X.x X.b (dk DX12_feed_0 42 rfl) (lv_at hl 7 rfl) ?_
        refine lv_bipush (v := 24) X.x X.b (dk DX12_feed_0 43 rfl) (by decide) ?_
        refine lv_bipush (v := 8) X.x X.b (dk DX12_feed_0 44 rfl) (by decide) ?_
        refine lv_iload X.x X.b (dk DX12_feed_0 45 rfl) (lv_at hl 6 rfl) ?_
        refine lv_iconst (v := 3) X.x X.b (dk DX12_feed_0 46 rfl) (by decide) ?_
        refine lv_iand X.x X.b (dk DX12_feed_0 47 rfl) ?_
        refine lv_imul X.x X.b (dk DX12_feed_0 48 rfl) ?_
        refine lv_isub X.x X.b (dk DX12_feed_0 49 rfl) ?_
        refine lv_iushr X.x X.b (dk DX12_feed_0 50 rfl) rfl ?_
        refine lv_sipush (v := 255) X.x X.b (dk DX12_feed_0 51 rfl) (by decide) ?_
        refine lv_iand X.x X.b (dk DX12_feed_0 52 rfl) ?_
        obtain ⟨c30, hF⟩ := gd hF
        refine og_iast X hq hH 4 (by decide) rfl (inb_in c30) (dk DX12_feed_0 53 rfl) (fun H locs hH => ?_)
        obtain ⟨t31, e32⟩ : ∃ y, y = oA s_t 4 (upd (s_t.2.2.1 4) (s_t.1 5 : Int32).toNatClampNeg (((b2.toUInt32 >>> (((24 : Int32) - ((8 : Int32) * (b6 &&& 3)) : Int32).toUInt32 &&& Int32.toUInt32 31)).toInt32) &&& 255)) := ⟨_, rfl⟩
        rw [← e32] at hH
        replace hF := bnd_e hF e32
        refine lv_aload_n X.x X.b (dk DX12_feed_0 54 rfl) rfl (lv_at hl 0 rfl) ?_
        refine lv_dup X.x X.b (dk DX12_feed_0 55 rfl) rfl ?_
        refine og_getI OX12 X hq hH 5 (by decide) rfl kF_X12_115 (dk DX12_feed_0 56 rfl) ?_
        refine lv_iconst (v := 1) X.x X.b (dk DX12_feed_0 57 rfl) (by decide) ?_
        refine lv_iadd X.x X.b (dk DX12_feed_0 58 rfl) ?_
        refine og_putI OX12 X hq hH 5 (by decide) rfl kF_X12_115 rfl rfl rfl (dk DX12_feed_0 59 rfl) (fun H locs hH => ?_)
        obtain ⟨t33, e34⟩ : ∃ y, y = oI t31 5 ((t31.1 5) + 1) := ⟨_, rfl⟩
        rw [← e34] at hH
        replace hF := bnd_e hF e34
        obtain ⟨v35, e36⟩ : ∃ y : Int32, y = b6 + 1 := ⟨_, rfl⟩
        replace hF := bnd_e hF e36
        refine lv_iinc (v := v35) (lv' := [(6, .int v35), (0, .ref (q 53)), (1, .int b1), (2, .int b2), (3, .int b3), (4, .int b4), (5, .int b5), (7, .int b2)]) X.x X.b (dk DX12_feed_1 0 rfl) hl (k := 6) rfl (by rw [e36]; rfl) (by decide) rfl (fun ls hl => ?_)
        replace hl : lv_has ls 8 [(0, .ref (q 53)), (1, .int b1), (2, .int b2), (3, .int b3), (4, .int b4), (5, .int b5), (6, .int v35)] := lv_sub hl [1, 2, 3, 4, 5, 6, 0] rfl
        refine lv_goto (tgt := 23) X.x X.b (dk DX12_feed_1 1 rfl) (by decide) ?_
        exact (lp_l hF hx) _ _ _ hH (lv_sub hl [0, 1, 2, 3, 4, 5, 6] rfl) K0
    · replace hF := if_f hF c5
      refine lv_iload_n X.x X.b (dk DX12_feed_0 19 rfl) rfl (lv_at hl 1 rfl) ?_
      refine lv_goto (tgt := 76) X.x X.b (dk DX12_feed_0 20 rfl) (by decide) ?_
      refine lv_istore (lv' := [(7, .int b1), (0, .ref (q 53)), (1, .int b1), (2, .int b2), (3, .int b3), (4, .int b4), (5, .int b5), (6, .int b6)]) X.x X.b (dk DX12_feed_0 37 rfl) hl (by decide) rfl (fun ls hl => ?_)
      replace hl : lv_has ls 8 [(0, .ref (q 53)), (1, .int b1), (2, .int b2), (3, .int b3), (4, .int b4), (5, .int b5), (6, .int b6), (7, .int b1)] := lv_sub hl [1, 2, 3, 4, 5, 6, 7, 0] rfl
      refine lv_aload_n X.x X.b (dk DX12_feed_0 38 rfl) rfl (lv_at hl 0 rfl) ?_
      refine og_getR (t := 0) OX12 X hq hH 4 (by decide) rfl kF_X12_13 (dk DX12_feed_0 39 rfl) ?_
      refine lv_aload_n X.x X.b (dk DX12_feed_0 40 rfl) rfl (lv_at hl 0 rfl) ?_
      refine og_getI OX12 X hq hH 5 (by decide) rfl kF_X12_115 (dk DX12_feed_0 41 rfl) ?_
      refine lv_iload X.x X.b (dk DX12_feed_0 42 rfl) (lv_at hl 7 rfl) ?_
      refine lv_bipush (v := 24) X.x X.b (dk DX12_feed_0 43 rfl) (by decide) ?_
      refine lv_bipush (v := 8) X.x X.b (dk DX12_feed_0 44 rfl) (by decide) ?_
      refine lv_iload X.x X.b (dk DX12_feed_0 45 rfl) (lv_at hl 6 rfl) ?_
      refine lv_iconst (v := 3) X.x X.b (dk DX12_feed_0 46 rfl) (by decide) ?_
      refine lv_iand X.x X.b (dk DX12_feed_0 47 rfl) ?_
      refine lv_imul X.x X.b (dk DX12_feed_0 48 rfl) ?_
      refine lv_isub X.x X.b (dk DX12_feed_0 49 rfl) ?_
      refine lv_iushr X.x X.b (dk DX12_feed_0 50 rfl) rfl ?_
      refine lv_sipush (v := 255) X.x X.b (dk DX12_feed_0 51 rfl) (by decide) ?_
      refine lv_iand X.x X.b (dk DX12_feed_0 52 rfl) ?_
      obtain ⟨c37, hF⟩ := gd hF
      refine og_iast X hq hH 4 (by decide) rfl (inb_in c37) (dk DX12_feed_0 53 rfl) (fun H locs hH => ?_)
      obtain ⟨t38, e39⟩ : ∃ y, y = oA s_t 4 (upd (s_t.2.2.1 4) (s_t.1 5 : Int32).toNatClampNeg (((b1.toUInt32 >>> (((24 : Int32) - ((8 : Int32) * (b6 &&& 3)) : Int32).toUInt32 &&& Int32.toUInt32 31)).toInt32) &&& 255)) := ⟨_, rfl⟩
      rw [← e39] at hH
      replace hF := bnd_e hF e39
      refine lv_aload_n X.x X.b (dk DX12_feed_0 54 rfl) rfl (lv_at hl 0 rfl) ?_
      refine lv_dup X.x X.b (dk DX12_feed_0 55 rfl) rfl ?_
      refine og_getI OX12 X hq hH 5 (by decide) rfl kF_X12_115 (dk DX12_feed_0 56 rfl) ?_
      refine lv_iconst (v := 1) X.x X.b (dk DX12_feed_0 57 rfl) (by decide) ?_
      refine lv_iadd X.x X.b (dk DX12_feed_0 58 rfl) ?_
      refine og_putI OX12 X hq hH 5 (by decide) rfl kF_X12_115 rfl rfl rfl (dk DX12_feed_0 59 rfl) (fun H locs hH => ?_)
      obtain ⟨t40, e41⟩ : ∃ y, y = oI t38 5 ((t38.1 5) + 1) := ⟨_, rfl⟩
      rw [← e41] at hH
      replace hF := bnd_e hF e41
      obtain ⟨v42, e43⟩ : ∃ y : Int32, y = b6 + 1 := ⟨_, rfl⟩
      replace hF := bnd_e hF e43
      refine lv_iinc (v := v42) (lv' := [(6, .int v42), (0, .ref (q 53)), (1, .int b1), (2, .int b2), (3, .int b3), (4, .int b4), (5, .int b5), (7, .int b1)]) X.x X.b (dk DX12_feed_1 0 rfl) hl (k := 6) rfl (by rw [e43]; rfl) (by decide) rfl (fun ls hl => ?_)
      replace hl : lv_has ls 8 [(0, .ref (q 53)), (1, .int b1), (2, .int b2), (3, .int b3), (4, .int b4), (5, .int b5), (6, .int v42)] := lv_sub hl [1, 2, 3, 4, 5, 6, 0] rfl
      refine lv_goto (tgt := 23) X.x X.b (dk DX12_feed_1 1 rfl) (by decide) ?_
      exact (lp_l hF hx) _ _ _ hH (lv_sub hl [0, 1, 2, 3, 4, 5, 6] rfl) K0
set_option maxHeartbeats 4000000 in
set_option maxRecDepth 100000 in
theorem c_X12_feed {l : Launch} {G : mG} {h : mM} {q : Nat → Nat} (hq : oinj LX12 q) {st : OS} {a0 : Int32} {a1 : Int32} {a2 : Int32} {a3 : Int32} {a4 : Int32} {x : Int32 × OS} (hF : f_X12_feed st a0 a1 a2 a3 a4 = some x) : cQ l G yX12_feed cX12_feed 8 (some FieldType.int) rm_X12_feed [.ref (q 53), .int a0, .int a1, .int a2, .int a3, .int a4] (oset LX12 G q st h) (mQi G (fun r h1 => r = x.1 ∧ h1 = oset LX12 G q x.2 h)) := by
  refine mp_of (by decide +kernel) (Nat.le_of_ble_eq_true rfl) ?_
  intro p e s m below meth c X hr hlk hH hname ls hl
  dsimp only [f_X12_feed] at hF
  replace hl : lv_has ls 8 [(0, .ref (q 53)), (1, .int a0), (2, .int a1), (3, .int a2), (4, .int a3), (5, .int a4)] := hl
  refine lv_aload_n X.x X.b (dk DX12_feed_0 0 rfl) rfl (lv_at hl 0 rfl) ?_
  refine lv_iconst (v := 0) X.x X.b (dk DX12_feed_0 1 rfl) (by decide) ?_
  refine og_putI OX12 X hq hH 2 (by decide) rfl kF_X12_106 rfl rfl rfl (dk DX12_feed_0 2 rfl) (fun H locs hH => ?_)
  obtain ⟨t1, e2⟩ : ∃ y, y = oI st 2 0 := ⟨_, rfl⟩
  rw [← e2] at hH
  replace hF := bnd_e hF e2
  refine lv_aload_n X.x X.b (dk DX12_feed_0 3 rfl) rfl (lv_at hl 0 rfl) ?_
  refine og_getI OX12 X hq hH 5 (by decide) rfl kF_X12_115 (dk DX12_feed_0 4 rfl) ?_
  refine lv_bipush (v := 20) X.x X.b (dk DX12_feed_0 5 rfl) (by decide) ?_
  refine lv_iadd X.x X.b (dk DX12_feed_0 6 rfl) ?_
  refine lv_sipush (v := 700) X.x X.b (dk DX12_feed_0 7 rfl) (by decide) ?_
  refine lv_icmp_le (tgt := 20) X.x X.b (dk DX12_feed_0 8 rfl) (by decide) (fun c3 => ?_) (fun c3 => ?_)
  · replace hF := if_t hF c3
    refine lv_iconst (v := 0) X.x X.b (dk DX12_feed_0 11 rfl) (by decide) ?_
    refine lv_istore (lv' := [(6, .int 0), (0, .ref (q 53)), (1, .int a0), (2, .int a1), (3, .int a2), (4, .int a3), (5, .int a4)]) X.x X.b (dk DX12_feed_0 12 rfl) hl (by decide) rfl (fun ls hl => ?_)
    replace hl : lv_has ls 8 [(0, .ref (q 53)), (1, .int a0), (2, .int a1), (3, .int a2), (4, .int a3), (5, .int a4), (6, .int 0)] := lv_sub hl [1, 2, 3, 4, 5, 6, 0] rfl
    obtain ⟨x44, e45, hF⟩ := bd hF
    replace hl : lv_has ls 8 [(0, .ref (q 53)), (1, .int a0), (2, .int a1), (3, .int a2), (4, .int a3), (5, .int a4), (6, .int 0)] := lv_sub hl [0, 1, 2, 3, 4, 5, 6] rfl
    refine w_X12_feed_23 hq X a0 a1 a2 a3 a4 _ _ e45 _ _ _ hH hl (fun H locs ls hH hl => ?_)
    refine lv_aload_n X.x X.b (dk DX12_feed_1 2 rfl) rfl (lv_at hl 0 rfl) ?_
    refine og_getI OX12 X hq hH 5 (by decide) rfl kF_X12_115 (dk DX12_feed_1 3 rfl) ?_
    cases sm hF
    exact mr_iret X hr hlk hH ⟨rfl, rfl⟩ (dk DX12_feed_1 4 rfl)
  · replace hF := if_f hF c3
    refine lv_iconst (v := (-1)) X.x X.b (dk DX12_feed_0 9 rfl) (by decide) ?_
    cases sm hF
    exact mr_iret X hr hlk hH ⟨rfl, rfl⟩ (dk DX12_feed_0 10 rfl)
-- X12_see
abbrev rm_X12_see : Room := { frames := 0, cells := 0, slots := 0, locals := 0 }
theorem hd_X12_see : mHd yX12_see 1 := ⟨by decide +kernel, by decide +kernel, by decide +kernel⟩
theorem DX12_see_0 : ∀ t ∈ ([(0, .iload_n 1, 1), (1, .aload_n 0, 1), (2, .getfield 118, 3), (5, .if_icmp .ge 12, 3), (8, .aload_n 0, 1), (9, .getfield 13, 3), (12, .iload_n 1, 1), (13, .iaload, 1), (14, .goto 4, 3), (17, .iconst 0, 1), (18, .ireturn, 1)] : List (Nat × Instr × Nat)), decode cX12_see t.1 = .ok (t.2.1, t.2.2) := by decide +kernel
noncomputable def f_X12_see (st : OS) (a0 : Int32) : Option (Int32) := (if (st.1 6) ≤ a0 then some 0 else if inb a0 700 = true then some (st.2.2.1 4 (a0 : Int32).toNatClampNeg) else none)
set_option maxHeartbeats 4000000 in
set_option maxRecDepth 100000 in
theorem c_X12_see {l : Launch} {G : mG} {h : mM} {q : Nat → Nat} (hq : oinj LX12 q) {st : OS} {a0 : Int32} {x : Int32} (hF : f_X12_see st a0 = some x) : cQ l G yX12_see cX12_see 2 (some FieldType.int) rm_X12_see [.ref (q 53), .int a0] (oset LX12 G q st h) (mQi G (fun r h1 => r = x ∧ h1 = oset LX12 G q st h)) := by
  refine mp_of (by decide +kernel) (Nat.le_of_ble_eq_true rfl) ?_
  intro p e s m below meth c X hr hlk hH hname ls hl
  dsimp only [f_X12_see] at hF
  replace hl : lv_has ls 2 [(0, .ref (q 53)), (1, .int a0)] := hl
  refine lv_iload_n X.x X.b (dk DX12_see_0 0 rfl) rfl (lv_at hl 1 rfl) ?_
  refine lv_aload_n X.x X.b (dk DX12_see_0 1 rfl) rfl (lv_at hl 0 rfl) ?_
  refine og_getI OX12 X hq hH 6 (by decide) rfl kF_X12_118 (dk DX12_see_0 2 rfl) ?_
  refine lv_icmp_ge (tgt := 17) X.x X.b (dk DX12_see_0 3 rfl) (by decide) (fun c1 => ?_) (fun c1 => ?_)
  · replace hF := if_t hF c1
    refine lv_iconst (v := 0) X.x X.b (dk DX12_see_0 9 rfl) (by decide) ?_
    cases sm hF
    exact mr_iret X hr hlk hH ⟨rfl, rfl⟩ (dk DX12_see_0 10 rfl)
  · replace hF := if_f hF c1
    refine lv_aload_n X.x X.b (dk DX12_see_0 4 rfl) rfl (lv_at hl 0 rfl) ?_
    refine og_getR (t := 0) OX12 X hq hH 4 (by decide) rfl kF_X12_13 (dk DX12_see_0 5 rfl) ?_
    refine lv_iload_n X.x X.b (dk DX12_see_0 6 rfl) rfl (lv_at hl 1 rfl) ?_
    obtain ⟨c2, hF⟩ := gd hF
    refine og_iald X hq hH 4 (by decide) rfl (inb_in c2) (dk DX12_see_0 7 rfl) ?_
    refine lv_goto (tgt := 18) X.x X.b (dk DX12_see_0 8 rfl) (by decide) ?_
    cases sm hF
    exact mr_iret X hr hlk hH ⟨rfl, rfl⟩ (dk DX12_see_0 10 rfl)
-- X12_isLetter
abbrev rm_X12_isLetter : Room := { frames := 0, cells := 0, slots := 0, locals := 0 }
theorem hd_X12_isLetter : mHd yX12_isLetter 1 := ⟨by decide +kernel, by decide +kernel, by decide +kernel⟩
theorem DX12_isLetter_0 : ∀ t ∈ ([(0, .iload_n 0, 1), (1, .bipush 97, 2), (3, .if_icmp .lt 13, 3), (6, .iload_n 0, 1), (7, .bipush 122, 2), (9, .if_icmp .gt 7, 3), (12, .iconst 1, 1), (13, .goto 4, 3), (16, .iconst 0, 1), (17, .ireturn, 1)] : List (Nat × Instr × Nat)), decode cX12_isLetter t.1 = .ok (t.2.1, t.2.2) := by decide +kernel
noncomputable def f_X12_isLetter (a0 : Int32) : Option (Int32) := (if a0 < 97 then some 0 else (if 122 < a0 then some 0 else some 1))
set_option maxHeartbeats 4000000 in
set_option maxRecDepth 100000 in
theorem c_X12_isLetter {l : Launch} {G : mG} {h : mM}  {a0 : Int32} {x : Int32} (hF : f_X12_isLetter a0 = some x) : cQ l G yX12_isLetter cX12_isLetter 1 (some FieldType.boolean) rm_X12_isLetter [.int a0] (h) (mQi G (fun r h1 => r = x ∧ h1 = h)) := by
  refine mp_of (by decide +kernel) (Nat.le_of_ble_eq_true rfl) ?_
  intro p e s m below meth c X hr hlk hH hname ls hl
  dsimp only [f_X12_isLetter] at hF
  replace hl : lv_has ls 1 [(0, .int a0)] := hl
  refine lv_iload_n X.x X.b (dk DX12_isLetter_0 0 rfl) rfl (lv_at hl 0 rfl) ?_
  refine lv_bipush (v := 97) X.x X.b (dk DX12_isLetter_0 1 rfl) (by decide) ?_
  refine lv_icmp_lt (tgt := 16) X.x X.b (dk DX12_isLetter_0 2 rfl) (by decide) (fun c1 => ?_) (fun c1 => ?_)
  · replace hF := if_t hF c1
    refine lv_iconst (v := 0) X.x X.b (dk DX12_isLetter_0 8 rfl) (by decide) ?_
    cases sm hF
    exact mr_zret X hr hlk hH rfl ⟨rfl, rfl⟩ (dk DX12_isLetter_0 9 rfl)
  · replace hF := if_f hF c1
    refine lv_iload_n X.x X.b (dk DX12_isLetter_0 3 rfl) rfl (lv_at hl 0 rfl) ?_
    refine lv_bipush (v := 122) X.x X.b (dk DX12_isLetter_0 4 rfl) (by decide) ?_
    refine lv_icmp_gt (tgt := 16) X.x X.b (dk DX12_isLetter_0 5 rfl) (by decide) (fun c2 => ?_) (fun c2 => ?_)
    · replace hF := if_t hF c2
      refine lv_iconst (v := 0) X.x X.b (dk DX12_isLetter_0 8 rfl) (by decide) ?_
      cases sm hF
      exact mr_zret X hr hlk hH rfl ⟨rfl, rfl⟩ (dk DX12_isLetter_0 9 rfl)
    · replace hF := if_f hF c2
      refine lv_iconst (v := 1) X.x X.b (dk DX12_isLetter_0 6 rfl) (by decide) ?_
      refine lv_goto (tgt := 17) X.x X.b (dk DX12_isLetter_0 7 rfl) (by decide) ?_
      cases sm hF
      exact mr_zret X hr hlk hH rfl ⟨rfl, rfl⟩ (dk DX12_isLetter_0 9 rfl)
-- X12_isDigit
abbrev rm_X12_isDigit : Room := { frames := 0, cells := 0, slots := 0, locals := 0 }
theorem hd_X12_isDigit : mHd yX12_isDigit 1 := ⟨by decide +kernel, by decide +kernel, by decide +kernel⟩
theorem DX12_isDigit_0 : ∀ t ∈ ([(0, .iload_n 0, 1), (1, .bipush 48, 2), (3, .if_icmp .lt 13, 3), (6, .iload_n 0, 1), (7, .bipush 57, 2), (9, .if_icmp .gt 7, 3), (12, .iconst 1, 1), (13, .goto 4, 3), (16, .iconst 0, 1), (17, .ireturn, 1)] : List (Nat × Instr × Nat)), decode cX12_isDigit t.1 = .ok (t.2.1, t.2.2) := by decide +kernel
noncomputable def f_X12_isDigit (a0 : Int32) : Option (Int32) := (if a0 < 48 then some 0 else (if 57 < a0 then some 0 else some 1))
set_option maxHeartbeats 4000000 in
set_option maxRecDepth 100000 in
theorem c_X12_isDigit {l : Launch} {G : mG} {h : mM}  {a0 : Int32} {x : Int32} (hF : f_X12_isDigit a0 = some x) : cQ l G yX12_isDigit cX12_isDigit 1 (some FieldType.boolean) rm_X12_isDigit [.int a0] (h) (mQi G (fun r h1 => r = x ∧ h1 = h)) := by
  refine mp_of (by decide +kernel) (Nat.le_of_ble_eq_true rfl) ?_
  intro p e s m below meth c X hr hlk hH hname ls hl
  dsimp only [f_X12_isDigit] at hF
  replace hl : lv_has ls 1 [(0, .int a0)] := hl
  refine lv_iload_n X.x X.b (dk DX12_isDigit_0 0 rfl) rfl (lv_at hl 0 rfl) ?_
  refine lv_bipush (v := 48) X.x X.b (dk DX12_isDigit_0 1 rfl) (by decide) ?_
  refine lv_icmp_lt (tgt := 16) X.x X.b (dk DX12_isDigit_0 2 rfl) (by decide) (fun c1 => ?_) (fun c1 => ?_)
  · replace hF := if_t hF c1
    refine lv_iconst (v := 0) X.x X.b (dk DX12_isDigit_0 8 rfl) (by decide) ?_
    cases sm hF
    exact mr_zret X hr hlk hH rfl ⟨rfl, rfl⟩ (dk DX12_isDigit_0 9 rfl)
  · replace hF := if_f hF c1
    refine lv_iload_n X.x X.b (dk DX12_isDigit_0 3 rfl) rfl (lv_at hl 0 rfl) ?_
    refine lv_bipush (v := 57) X.x X.b (dk DX12_isDigit_0 4 rfl) (by decide) ?_
    refine lv_icmp_gt (tgt := 16) X.x X.b (dk DX12_isDigit_0 5 rfl) (by decide) (fun c2 => ?_) (fun c2 => ?_)
    · replace hF := if_t hF c2
      refine lv_iconst (v := 0) X.x X.b (dk DX12_isDigit_0 8 rfl) (by decide) ?_
      cases sm hF
      exact mr_zret X hr hlk hH rfl ⟨rfl, rfl⟩ (dk DX12_isDigit_0 9 rfl)
    · replace hF := if_f hF c2
      refine lv_iconst (v := 1) X.x X.b (dk DX12_isDigit_0 6 rfl) (by decide) ?_
      refine lv_goto (tgt := 17) X.x X.b (dk DX12_isDigit_0 7 rfl) (by decide) ?_
      cases sm hF
      exact mr_zret X hr hlk hH rfl ⟨rfl, rfl⟩ (dk DX12_isDigit_0 9 rfl)
-- X12_reads
abbrev rm_X12_reads : Room := { frames := 1, cells := 0, slots := 0, locals := 21 }
theorem hd_X12_reads : mHd yX12_reads 0 := ⟨by decide +kernel, by decide +kernel, by decide +kernel⟩
theorem DX12_reads_0 : ∀ t ∈ ([(0, .aload_n 0, 1), (1, .getfield 121, 3), (4, .aload_n 0, 1), (5, .getfield 118, 3), (8, .if_icmp .ge 44, 3), (11, .aload_n 0, 1), (12, .getfield 13, 3), (15, .aload_n 0, 1), (16, .getfield 121, 3), (19, .iaload, 1), (20, .bipush 32, 2), (22, .if_icmp .eq 17, 3), (25, .aload_n 0, 1), (26, .getfield 13, 3), (29, .aload_n 0, 1), (30, .getfield 121, 3), (33, .iaload, 1), (34, .bipush 10, 2), (36, .if_icmp .ne 16, 3), (39, .aload_n 0, 1), (40, .dup, 1), (41, .getfield 121, 3), (44, .iconst 1, 1), (45, .iadd, 1), (46, .putfield 121, 3), (49, .goto (-49), 3), (52, .aload_n 0, 1), (53, .aload_n 0, 1), (54, .getfield 121, 3), (57, .putfield 124, 3), (60, .aload_n 0, 1), (61, .getfield 121, 3), (64, .aload_n 0, 1), (65, .getfield 118, 3), (68, .if_icmp .lt 9, 3), (71, .aload_n 0, 1), (72, .iconst 0, 1), (73, .putfield 127, 3), (76, .return_, 1), (77, .aload_n 0, 1), (78, .getfield 13, 3), (81, .aload_n 0, 1), (82, .getfield 121, 3), (85, .iaload, 1), (86, .istore_n 1, 1), (87, .iload_n 1, 1), (88, .invokestatic 130, 3), (91, .ifCond .eq 38, 3), (94, .aload_n 0, 1), (95, .aload_n 0, 1), (96, .getfield 121, 3), (99, .invokevirtual 134, 3), (102, .invokestatic 130, 3), (105, .ifCond .eq 16, 3), (108, .aload_n 0, 1), (109, .dup, 1), (110, .getfield 121, 3), (113, .iconst 1, 1), (114, .iadd, 1), (115, .putfield 121, 3)] : List (Nat × Instr × Nat)), decode cX12_reads t.1 = .ok (t.2.1, t.2.2) := by decide +kernel
theorem DX12_reads_1 : ∀ t ∈ ([(118, .goto (-24), 3), (121, .aload_n 0, 1), (122, .iconst 1, 1), (123, .putfield 127, 3), (126, .goto 136, 3), (129, .iload_n 1, 1), (130, .invokestatic 138, 3), (133, .ifCond .eq 104, 3), (136, .aload_n 0, 1), (137, .iconst 0, 1), (138, .putfield 141, 3), (141, .aload_n 0, 1), (142, .aload_n 0, 1), (143, .getfield 121, 3), (146, .invokevirtual 134, 3), (149, .invokestatic 138, 3), (152, .ifCond .eq 60, 3), (155, .aload_n 0, 1), (156, .aload_n 0, 1), (157, .getfield 121, 3), (160, .aload_n 0, 1), (161, .getfield 124, 3), (164, .isub, 1), (165, .iconst 3, 1), (166, .if_icmp .ge 26, 3), (169, .bipush 10, 2), (171, .aload_n 0, 1), (172, .getfield 141, 3), (175, .imul, 1), (176, .aload_n 0, 1), (177, .getfield 13, 3), (180, .aload_n 0, 1), (181, .getfield 121, 3), (184, .iaload, 1), (185, .iadd, 1), (186, .bipush 48, 2), (188, .isub, 1), (189, .goto 7, 3), (192, .aload_n 0, 1), (193, .getfield 141, 3), (196, .putfield 141, 3), (199, .aload_n 0, 1), (200, .dup, 1), (201, .getfield 121, 3), (204, .iconst 1, 1), (205, .iadd, 1), (206, .putfield 121, 3), (209, .goto (-68), 3), (212, .aload_n 0, 1), (213, .aload_n 0, 1), (214, .getfield 121, 3), (217, .aload_n 0, 1), (218, .getfield 124, 3), (221, .isub, 1), (222, .iconst 3, 1), (223, .if_icmp .le 7, 3), (226, .iconst 4, 1), (227, .goto 4, 3), (230, .iconst 2, 1), (231, .putfield 127, 3)] : List (Nat × Instr × Nat)), decode cX12_reads t.1 = .ok (t.2.1, t.2.2) := by decide +kernel
theorem DX12_reads_2 : ∀ t ∈ ([(234, .goto 28, 3), (237, .aload_n 0, 1), (238, .iload_n 1, 1), (239, .bipush 59, 2), (241, .if_icmp .ne 7, 3), (244, .iconst 3, 1), (245, .goto 4, 3), (248, .iconst 4, 1), (249, .putfield 127, 3), (252, .aload_n 0, 1), (253, .dup, 1), (254, .getfield 121, 3), (257, .iconst 1, 1), (258, .iadd, 1), (259, .putfield 121, 3), (262, .return_, 1)] : List (Nat × Instr × Nat)), decode cX12_reads t.1 = .ok (t.2.1, t.2.2) := by decide +kernel
noncomputable def f_X12_reads_0 : OS → Option ((OS) ⊕ (OS)) := fun s_t => (if (s_t.1 6) ≤ (s_t.1 7) then some (.inr s_t) else if inb (s_t.1 7) 700 = true then (if (s_t.2.2.1 4 (s_t.1 7 : Int32).toNatClampNeg) = 32 then bnd (oI s_t 7 ((s_t.1 7) + 1)) (fun t4 => some (.inl t4)) else (if (s_t.2.2.1 4 (s_t.1 7 : Int32).toNatClampNeg) = 10 then bnd (oI s_t 7 ((s_t.1 7) + 1)) (fun t7 => some (.inl t7)) else some (.inr s_t))) else none)
noncomputable def f_X12_reads_141 : OS → Option ((OS) ⊕ (OS)) := fun s_t => (f_X12_see s_t (s_t.1 7)).bind (fun x37 => (f_X12_isDigit x37).bind (fun x40 => (if x40 = 0 then some (.inr s_t) else (if 3 ≤ (s_t.1 7) - (s_t.1 8) then bnd (oI s_t 10 (s_t.1 10)) (fun t45 => bnd (oI t45 7 ((t45.1 7) + 1)) (fun t47 => some (.inl t47))) else if inb (s_t.1 7) 700 = true then bnd (oI s_t 10 ((((10 : Int32) * (s_t.1 10)) + (s_t.2.2.1 4 (s_t.1 7 : Int32).toNatClampNeg)) - 48)) (fun t50 => bnd (oI t50 7 ((t50.1 7) + 1)) (fun t52 => some (.inl t52))) else none))))
noncomputable def f_X12_reads_94 : OS → Option ((OS) ⊕ (OS)) := fun s_t => (f_X12_see s_t (s_t.1 7)).bind (fun x62 => (f_X12_isLetter x62).bind (fun x65 => (if x65 = 0 then some (.inr s_t) else bnd (oI s_t 7 ((s_t.1 7) + 1)) (fun t69 => some (.inl t69)))))
noncomputable def f_X12_reads (st : OS) : Option (OS) := (lpv (f_X12_reads_0) st).bind (fun x9 => bnd (oI x9 8 (x9.1 7)) (fun t12 => (if (t12.1 7) < (t12.1 6) then if inb (t12.1 7) 700 = true then bnd (t12.2.2.1 4 (t12.1 7 : Int32).toNatClampNeg : Int32) (fun v16 => (f_X12_isLetter v16).bind (fun x18 => (if x18 = 0 then (f_X12_isDigit v16).bind (fun x22 => (if x22 = 0 then (if v16 = 59 then bnd (oI t12 9 3) (fun t31 => bnd (oI t31 7 ((t31.1 7) + 1)) (fun t33 => some t33)) else bnd (oI t12 9 4) (fun t27 => bnd (oI t27 7 ((t27.1 7) + 1)) (fun t29 => some t29))) else bnd (oI t12 10 0) (fun t35 => (lpv (f_X12_reads_141) t35).bind (fun x54 => (if (x54.1 7) - (x54.1 8) ≤ 3 then bnd (oI x54 9 2) (fun t58 => some t58) else bnd (oI x54 9 4) (fun t60 => some t60)))))) else (lpv (f_X12_reads_94) t12).bind (fun x71 => bnd (oI x71 9 1) (fun t74 => some t74))))) else none else bnd (oI t12 9 0) (fun t76 => some t76))))
set_option maxHeartbeats 4000000 in
set_option maxRecDepth 100000 in
theorem w_X12_reads_0 {p : Program} {l : Launch} {e : Env} {s : State} {m : MethodId} {args : Array Value} {below : List Frame} {meth : Method} {c : Code} {Q : State → Prop} {G : mG} {h : mM} {q : Nat → Nat} (hq : oinj LX12 q) (X : mX G p m c cX12_reads 2 s args RX12) : ∀ (z : OS) (r : OS), lpv (f_X12_reads_0) z = some r → ∀ (H : Heap) (locs : List Loc) (ls : Array Slot), mH G (oset LX12 G q z h) s.heap H locs → lv_has ls 2 [(0, .ref (q 53))] → (∀ (H : Heap) (locs : List Loc) (ls : Array Slot), mH G (oset LX12 G q r h) s.heap H locs → lv_has ls 2 [(0, .ref (q 53))] → W p l e rm_X12_reads s m args below meth c H locs 0 0 Q (F0 m 52 ls [])) → W p l e rm_X12_reads s m args below meth c H locs 0 0 Q (F0 m 0 ls []) := by
  refine lpv_rec ?_
  intro z r x hF hx H locs ls hH hl K0
  obtain ⟨s_t, hz⟩ : ∃ y, y = z := ⟨_, rfl⟩
  subst hz
  dsimp only [f_X12_reads_0] at hF
  refine lv_aload_n X.x X.b (dk DX12_reads_0 0 rfl) rfl (lv_at hl 0 rfl) ?_
  refine og_getI OX12 X hq hH 7 (by decide) rfl kF_X12_121 (dk DX12_reads_0 1 rfl) ?_
  refine lv_aload_n X.x X.b (dk DX12_reads_0 2 rfl) rfl (lv_at hl 0 rfl) ?_
  refine og_getI OX12 X hq hH 6 (by decide) rfl kF_X12_118 (dk DX12_reads_0 3 rfl) ?_
  refine lv_icmp_ge (tgt := 52) X.x X.b (dk DX12_reads_0 4 rfl) (by decide) (fun c1 => ?_) (fun c1 => ?_)
  · replace hF := if_t hF c1
    have hr9 := lp_r hF hx
    subst hr9
    exact K0 _ _ _ hH (lv_sub hl [0] rfl)
  · replace hF := if_f hF c1
    refine lv_aload_n X.x X.b (dk DX12_reads_0 5 rfl) rfl (lv_at hl 0 rfl) ?_
    refine og_getR (t := 0) OX12 X hq hH 4 (by decide) rfl kF_X12_13 (dk DX12_reads_0 6 rfl) ?_
    refine lv_aload_n X.x X.b (dk DX12_reads_0 7 rfl) rfl (lv_at hl 0 rfl) ?_
    refine og_getI OX12 X hq hH 7 (by decide) rfl kF_X12_121 (dk DX12_reads_0 8 rfl) ?_
    obtain ⟨c2, hF⟩ := gd hF
    refine og_iald X hq hH 4 (by decide) rfl (inb_in c2) (dk DX12_reads_0 9 rfl) ?_
    refine lv_bipush (v := 32) X.x X.b (dk DX12_reads_0 10 rfl) (by decide) ?_
    refine lv_icmp_eq (tgt := 39) X.x X.b (dk DX12_reads_0 11 rfl) (by decide) (fun c3 => ?_) (fun c3 => ?_)
    · replace hF := if_t hF c3
      refine lv_aload_n X.x X.b (dk DX12_reads_0 19 rfl) rfl (lv_at hl 0 rfl) ?_
      refine lv_dup X.x X.b (dk DX12_reads_0 20 rfl) rfl ?_
      refine og_getI OX12 X hq hH 7 (by decide) rfl kF_X12_121 (dk DX12_reads_0 21 rfl) ?_
      refine lv_iconst (v := 1) X.x X.b (dk DX12_reads_0 22 rfl) (by decide) ?_
      refine lv_iadd X.x X.b (dk DX12_reads_0 23 rfl) ?_
      refine og_putI OX12 X hq hH 7 (by decide) rfl kF_X12_121 rfl rfl rfl (dk DX12_reads_0 24 rfl) (fun H locs hH => ?_)
      obtain ⟨t4, e5⟩ : ∃ y, y = oI s_t 7 ((s_t.1 7) + 1) := ⟨_, rfl⟩
      rw [← e5] at hH
      replace hF := bnd_e hF e5
      refine lv_goto (tgt := 0) X.x X.b (dk DX12_reads_0 25 rfl) (by decide) ?_
      exact (lp_l hF hx) _ _ _ hH (lv_sub hl [0] rfl) K0
    · replace hF := if_f hF c3
      refine lv_aload_n X.x X.b (dk DX12_reads_0 12 rfl) rfl (lv_at hl 0 rfl) ?_
      refine og_getR (t := 0) OX12 X hq hH 4 (by decide) rfl kF_X12_13 (dk DX12_reads_0 13 rfl) ?_
      refine lv_aload_n X.x X.b (dk DX12_reads_0 14 rfl) rfl (lv_at hl 0 rfl) ?_
      refine og_getI OX12 X hq hH 7 (by decide) rfl kF_X12_121 (dk DX12_reads_0 15 rfl) ?_
      refine og_iald X hq hH 4 (by decide) rfl (inb_in c2) (dk DX12_reads_0 16 rfl) ?_
      refine lv_bipush (v := 10) X.x X.b (dk DX12_reads_0 17 rfl) (by decide) ?_
      refine lv_icmp_ne (tgt := 52) X.x X.b (dk DX12_reads_0 18 rfl) (by decide) (fun c6 => ?_) (fun c6 => ?_)
      · replace hF := if_f hF c6
        have hr9 := lp_r hF hx
        subst hr9
        exact K0 _ _ _ hH (lv_sub hl [0] rfl)
      · replace hF := if_t hF c6
        refine lv_aload_n X.x X.b (dk DX12_reads_0 19 rfl) rfl (lv_at hl 0 rfl) ?_
        refine lv_dup X.x X.b (dk DX12_reads_0 20 rfl) rfl ?_
        refine og_getI OX12 X hq hH 7 (by decide) rfl kF_X12_121 (dk DX12_reads_0 21 rfl) ?_
        refine lv_iconst (v := 1) X.x X.b (dk DX12_reads_0 22 rfl) (by decide) ?_
        refine lv_iadd X.x X.b (dk DX12_reads_0 23 rfl) ?_
        refine og_putI OX12 X hq hH 7 (by decide) rfl kF_X12_121 rfl rfl rfl (dk DX12_reads_0 24 rfl) (fun H locs hH => ?_)
        obtain ⟨t7, e8⟩ : ∃ y, y = oI s_t 7 ((s_t.1 7) + 1) := ⟨_, rfl⟩
        rw [← e8] at hH
        replace hF := bnd_e hF e8
        refine lv_goto (tgt := 0) X.x X.b (dk DX12_reads_0 25 rfl) (by decide) ?_
        exact (lp_l hF hx) _ _ _ hH (lv_sub hl [0] rfl) K0
set_option maxHeartbeats 4000000 in
set_option maxRecDepth 100000 in
theorem w_X12_reads_141 {p : Program} {l : Launch} {e : Env} {s : State} {m : MethodId} {args : Array Value} {below : List Frame} {meth : Method} {c : Code} {Q : State → Prop} {G : mG} {h : mM} {q : Nat → Nat} (hq : oinj LX12 q) (X : mX G p m c cX12_reads 2 s args RX12) : ∀ (z : OS) (r : OS), lpv (f_X12_reads_141) z = some r → ∀ (H : Heap) (locs : List Loc) (ls : Array Slot), mH G (oset LX12 G q z h) s.heap H locs → lv_has ls 2 [(0, .ref (q 53))] → (∀ (H : Heap) (locs : List Loc) (ls : Array Slot), mH G (oset LX12 G q r h) s.heap H locs → lv_has ls 2 [(0, .ref (q 53))] → W p l e rm_X12_reads s m args below meth c H locs 0 0 Q (F0 m 212 ls [])) → W p l e rm_X12_reads s m args below meth c H locs 0 0 Q (F0 m 141 ls []) := by
  refine lpv_rec ?_
  intro z r x hF hx H locs ls hH hl K0
  obtain ⟨s_t, hz⟩ : ∃ y, y = z := ⟨_, rfl⟩
  subst hz
  dsimp only [f_X12_reads_141] at hF
  refine lv_aload_n X.x X.b (dk DX12_reads_1 11 rfl) rfl (lv_at hl 0 rfl) ?_
  refine lv_aload_n X.x X.b (dk DX12_reads_1 12 rfl) rfl (lv_at hl 0 rfl) ?_
  refine og_getI OX12 X hq hH 7 (by decide) rfl kF_X12_121 (dk DX12_reads_1 13 rfl) ?_
  obtain ⟨x37, e38, hF⟩ := bd hF
  refine mr_ci0 hH ⟨rfl, rfl⟩ (mr_runV (As := [.int (s_t.1 7)]) (rest := []) X hH (c_X12_see hq e38) ((oset_at hq (Nat.le_refl _) ohas_N).trans (congrArg some ocell_N)) OX12.1 kM_X12_134 kI_X12_see kS_X12_see kN_X12 kC_X12_see hd_X12_see ⟨Nat.le_of_ble_eq_true rfl, Nat.le_of_ble_eq_true rfl⟩ rfl hl.1 (Nat.le_of_ble_eq_true rfl) (dk DX12_reads_1 14 rfl) ⟨Nat.zero_le _, Nat.zero_le _⟩) (fun r h1 H locs hp hH => ?_)
  obtain ⟨hr1, hr2⟩ := hp; rw [hr1]; rw [hr2] at hH; clear hr1 hr2
  obtain ⟨x40, e41, hF⟩ := bd hF
  refine mr_ci0 hH ⟨rfl, rfl⟩ (mr_runS (As := [.int x37]) (rest := []) X hH (c_X12_isDigit e41) kM_X12_138 kT_X12_isDigit kN_X12 kC_X12_isDigit hd_X12_isDigit ⟨Nat.le_of_ble_eq_true rfl, Nat.le_of_ble_eq_true rfl⟩ rfl hl.1 (Nat.le_of_ble_eq_true rfl) (dk DX12_reads_1 15 rfl) ⟨Nat.zero_le _, Nat.zero_le _⟩) (fun r h1 H locs hp hH => ?_)
  obtain ⟨hr1, hr2⟩ := hp; rw [hr1]; rw [hr2] at hH; clear hr1 hr2
  refine lv_if_eq (tgt := 212) X.x X.b (dk DX12_reads_1 16 rfl) (by decide) (fun c43 => ?_) (fun c43 => ?_)
  · replace hF := if_t hF c43
    have hr9 := lp_r hF hx
    subst hr9
    exact K0 _ _ _ hH (lv_sub hl [0] rfl)
  · replace hF := if_f hF c43
    refine lv_aload_n X.x X.b (dk DX12_reads_1 17 rfl) rfl (lv_at hl 0 rfl) ?_
    refine lv_aload_n X.x X.b (dk DX12_reads_1 18 rfl) rfl (lv_at hl 0 rfl) ?_
    refine og_getI OX12 X hq hH 7 (by decide) rfl kF_X12_121 (dk DX12_reads_1 19 rfl) ?_
    refine lv_aload_n X.x X.b (dk DX12_reads_1 20 rfl) rfl (lv_at hl 0 rfl) ?_
    refine og_getI OX12 X hq hH 8 (by decide) rfl kF_X12_124 (dk DX12_reads_1 21 rfl) ?_
    refine lv_isub X.x X.b (dk DX12_reads_1 22 rfl) ?_
    refine lv_iconst (v := 3) X.x X.b (dk DX12_reads_1 23 rfl) (by decide) ?_
    refine lv_icmp_ge (tgt := 192) X.x X.b (dk DX12_reads_1 24 rfl) (by decide) (fun c44 => ?_) (fun c44 => ?_)
    · replace hF := if_t hF c44
      refine lv_aload_n X.x X.b (dk DX12_reads_1 38 rfl) rfl (lv_at hl 0 rfl) ?_
      refine og_getI OX12 X hq hH 10 (by decide) rfl kF_X12_141 (dk DX12_reads_1 39 rfl) ?_
      refine og_putI OX12 X hq hH 10 (by decide) rfl kF_X12_141 rfl rfl rfl (dk DX12_reads_1 40 rfl) (fun H locs hH => ?_)
      obtain ⟨t45, e46⟩ : ∃ y, y = oI s_t 10 (s_t.1 10) := ⟨_, rfl⟩
      rw [← e46] at hH
      replace hF := bnd_e hF e46
      refine lv_aload_n X.x X.b (dk DX12_reads_1 41 rfl) rfl (lv_at hl 0 rfl) ?_
      refine lv_dup X.x X.b (dk DX12_reads_1 42 rfl) rfl ?_
      refine og_getI OX12 X hq hH 7 (by decide) rfl kF_X12_121 (dk DX12_reads_1 43 rfl) ?_
      refine lv_iconst (v := 1) X.x X.b (dk DX12_reads_1 44 rfl) (by decide) ?_
      refine lv_iadd X.x X.b (dk DX12_reads_1 45 rfl) ?_
      refine og_putI OX12 X hq hH 7 (by decide) rfl kF_X12_121 rfl rfl rfl (dk DX12_reads_1 46 rfl) (fun H locs hH => ?_)
      obtain ⟨t47, e48⟩ : ∃ y, y = oI t45 7 ((t45.1 7) + 1) := ⟨_, rfl⟩
      rw [← e48] at hH
      replace hF := bnd_e hF e48
      refine lv_goto (tgt := 141) X.x X.b (dk DX12_reads_1 47 rfl) (by decide) ?_
      exact (lp_l hF hx) _ _ _ hH (lv_sub hl [0] rfl) K0
    · replace hF := if_f hF c44
      refine lv_bipush (v := 10) X.x X.b (dk DX12_reads_1 25 rfl) (by decide) ?_
      refine lv_aload_n X.x X.b (dk DX12_reads_1 26 rfl) rfl (lv_at hl 0 rfl) ?_
      refine og_getI OX12 X hq hH 10 (by decide) rfl kF_X12_141 (dk DX12_reads_1 27 rfl) ?_
      refine lv_imul X.x X.b (dk DX12_reads_1 28 rfl) ?_
      refine lv_aload_n X.x X.b (dk DX12_reads_1 29 rfl) rfl (lv_at hl 0 rfl) ?_
      refine og_getR (t := 0) OX12 X hq hH 4 (by decide) rfl kF_X12_13 (dk DX12_reads_1 30 rfl) ?_
      refine lv_aload_n X.x X.b (dk DX12_reads_1 31 rfl) rfl (lv_at hl 0 rfl) ?_
      refine og_getI OX12 X hq hH 7 (by decide) rfl kF_X12_121 (dk DX12_reads_1 32 rfl) ?_
      obtain ⟨c49, hF⟩ := gd hF
      refine og_iald X hq hH 4 (by decide) rfl (inb_in c49) (dk DX12_reads_1 33 rfl) ?_
      refine lv_iadd X.x X.b (dk DX12_reads_1 34 rfl) ?_
      refine lv_bipush (v := 48) X.x X.b (dk DX12_reads_1 35 rfl) (by decide) ?_
      refine lv_isub X.x X.b (dk DX12_reads_1 36 rfl) ?_
      refine lv_goto (tgt := 196) X.x X.b (dk DX12_reads_1 37 rfl) (by decide) ?_
      refine og_putI OX12 X hq hH 10 (by decide) rfl kF_X12_141 rfl rfl rfl (dk DX12_reads_1 40 rfl) (fun H locs hH => ?_)
      obtain ⟨t50, e51⟩ : ∃ y, y = oI s_t 10 ((((10 : Int32) * (s_t.1 10)) + (s_t.2.2.1 4 (s_t.1 7 : Int32).toNatClampNeg)) - 48) := ⟨_, rfl⟩
      rw [← e51] at hH
      replace hF := bnd_e hF e51
      refine lv_aload_n X.x X.b (dk DX12_reads_1 41 rfl) rfl (lv_at hl 0 rfl) ?_
      refine lv_dup X.x X.b (dk DX12_reads_1 42 rfl) rfl ?_
      refine og_getI OX12 X hq hH 7 (by decide) rfl kF_X12_121 (dk DX12_reads_1 43 rfl) ?_
      refine lv_iconst (v := 1) X.x X.b (dk DX12_reads_1 44 rfl) (by decide) ?_
      refine lv_iadd X.x X.b (dk DX12_reads_1 45 rfl) ?_
      refine og_putI OX12 X hq hH 7 (by decide) rfl kF_X12_121 rfl rfl rfl (dk DX12_reads_1 46 rfl) (fun H locs hH => ?_)
      obtain ⟨t52, e53⟩ : ∃ y, y = oI t50 7 ((t50.1 7) + 1) := ⟨_, rfl⟩
      rw [← e53] at hH
      replace hF := bnd_e hF e53
      refine lv_goto (tgt := 141) X.x X.b (dk DX12_reads_1 47 rfl) (by decide) ?_
      exact (lp_l hF hx) _ _ _ hH (lv_sub hl [0] rfl) K0
set_option maxHeartbeats 4000000 in
set_option maxRecDepth 100000 in
theorem w_X12_reads_94 {p : Program} {l : Launch} {e : Env} {s : State} {m : MethodId} {args : Array Value} {below : List Frame} {meth : Method} {c : Code} {Q : State → Prop} {G : mG} {h : mM} {q : Nat → Nat} (hq : oinj LX12 q) (X : mX G p m c cX12_reads 2 s args RX12) : ∀ (z : OS) (r : OS), lpv (f_X12_reads_94) z = some r → ∀ (H : Heap) (locs : List Loc) (ls : Array Slot), mH G (oset LX12 G q z h) s.heap H locs → lv_has ls 2 [(0, .ref (q 53))] → (∀ (H : Heap) (locs : List Loc) (ls : Array Slot), mH G (oset LX12 G q r h) s.heap H locs → lv_has ls 2 [(0, .ref (q 53))] → W p l e rm_X12_reads s m args below meth c H locs 0 0 Q (F0 m 121 ls [])) → W p l e rm_X12_reads s m args below meth c H locs 0 0 Q (F0 m 94 ls []) := by
  refine lpv_rec ?_
  intro z r x hF hx H locs ls hH hl K0
  obtain ⟨s_t, hz⟩ : ∃ y, y = z := ⟨_, rfl⟩
  subst hz
  dsimp only [f_X12_reads_94] at hF
  refine lv_aload_n X.x X.b (dk DX12_reads_0 48 rfl) rfl (lv_at hl 0 rfl) ?_
  refine lv_aload_n X.x X.b (dk DX12_reads_0 49 rfl) rfl (lv_at hl 0 rfl) ?_
  refine og_getI OX12 X hq hH 7 (by decide) rfl kF_X12_121 (dk DX12_reads_0 50 rfl) ?_
  obtain ⟨x62, e63, hF⟩ := bd hF
  refine mr_ci0 hH ⟨rfl, rfl⟩ (mr_runV (As := [.int (s_t.1 7)]) (rest := []) X hH (c_X12_see hq e63) ((oset_at hq (Nat.le_refl _) ohas_N).trans (congrArg some ocell_N)) OX12.1 kM_X12_134 kI_X12_see kS_X12_see kN_X12 kC_X12_see hd_X12_see ⟨Nat.le_of_ble_eq_true rfl, Nat.le_of_ble_eq_true rfl⟩ rfl hl.1 (Nat.le_of_ble_eq_true rfl) (dk DX12_reads_0 51 rfl) ⟨Nat.zero_le _, Nat.zero_le _⟩) (fun r h1 H locs hp hH => ?_)
  obtain ⟨hr1, hr2⟩ := hp; rw [hr1]; rw [hr2] at hH; clear hr1 hr2
  obtain ⟨x65, e66, hF⟩ := bd hF
  refine mr_ci0 hH ⟨rfl, rfl⟩ (mr_runS (As := [.int x62]) (rest := []) X hH (c_X12_isLetter e66) kM_X12_130 kT_X12_isLetter kN_X12 kC_X12_isLetter hd_X12_isLetter ⟨Nat.le_of_ble_eq_true rfl, Nat.le_of_ble_eq_true rfl⟩ rfl hl.1 (Nat.le_of_ble_eq_true rfl) (dk DX12_reads_0 52 rfl) ⟨Nat.zero_le _, Nat.zero_le _⟩) (fun r h1 H locs hp hH => ?_)
  obtain ⟨hr1, hr2⟩ := hp; rw [hr1]; rw [hr2] at hH; clear hr1 hr2
  refine lv_if_eq (tgt := 121) X.x X.b (dk DX12_reads_0 53 rfl) (by decide) (fun c68 => ?_) (fun c68 => ?_)
  · replace hF := if_t hF c68
    have hr9 := lp_r hF hx
    subst hr9
    exact K0 _ _ _ hH (lv_sub hl [0] rfl)
  · replace hF := if_f hF c68
    refine lv_aload_n X.x X.b (dk DX12_reads_0 54 rfl) rfl (lv_at hl 0 rfl) ?_
    refine lv_dup X.x X.b (dk DX12_reads_0 55 rfl) rfl ?_
    refine og_getI OX12 X hq hH 7 (by decide) rfl kF_X12_121 (dk DX12_reads_0 56 rfl) ?_
    refine lv_iconst (v := 1) X.x X.b (dk DX12_reads_0 57 rfl) (by decide) ?_
    refine lv_iadd X.x X.b (dk DX12_reads_0 58 rfl) ?_
    refine og_putI OX12 X hq hH 7 (by decide) rfl kF_X12_121 rfl rfl rfl (dk DX12_reads_0 59 rfl) (fun H locs hH => ?_)
    obtain ⟨t69, e70⟩ : ∃ y, y = oI s_t 7 ((s_t.1 7) + 1) := ⟨_, rfl⟩
    rw [← e70] at hH
    replace hF := bnd_e hF e70
    refine lv_goto (tgt := 94) X.x X.b (dk DX12_reads_1 0 rfl) (by decide) ?_
    exact (lp_l hF hx) _ _ _ hH (lv_sub hl [0] rfl) K0
set_option maxHeartbeats 4000000 in
set_option maxRecDepth 100000 in
theorem c_X12_reads {l : Launch} {G : mG} {h : mM} {q : Nat → Nat} (hq : oinj LX12 q) {st : OS} {x : OS} (hF : f_X12_reads st = some x) : cQ l G yX12_reads cX12_reads 2 none rm_X12_reads [.ref (q 53)] (oset LX12 G q st h) (mQv G (fun h1 => h1 = oset LX12 G q x h)) := by
  refine mp_of (by decide +kernel) (Nat.le_of_ble_eq_true rfl) ?_
  intro p e s m below meth c X hr hlk hH hname ls hl
  dsimp only [f_X12_reads] at hF
  replace hl : lv_has ls 2 [(0, .ref (q 53))] := hl
  obtain ⟨x9, e10, hF⟩ := bd hF
  replace hl : lv_has ls 2 [(0, .ref (q 53))] := lv_sub hl [0] rfl
  refine w_X12_reads_0 hq X _ _ e10 _ _ _ hH hl (fun H locs ls hH hl => ?_)
  refine lv_aload_n X.x X.b (dk DX12_reads_0 26 rfl) rfl (lv_at hl 0 rfl) ?_
  refine lv_aload_n X.x X.b (dk DX12_reads_0 27 rfl) rfl (lv_at hl 0 rfl) ?_
  refine og_getI OX12 X hq hH 7 (by decide) rfl kF_X12_121 (dk DX12_reads_0 28 rfl) ?_
  refine og_putI OX12 X hq hH 8 (by decide) rfl kF_X12_124 rfl rfl rfl (dk DX12_reads_0 29 rfl) (fun H locs hH => ?_)
  obtain ⟨t12, e13⟩ : ∃ y, y = oI x9 8 (x9.1 7) := ⟨_, rfl⟩
  rw [← e13] at hH
  replace hF := bnd_e hF e13
  refine lv_aload_n X.x X.b (dk DX12_reads_0 30 rfl) rfl (lv_at hl 0 rfl) ?_
  refine og_getI OX12 X hq hH 7 (by decide) rfl kF_X12_121 (dk DX12_reads_0 31 rfl) ?_
  refine lv_aload_n X.x X.b (dk DX12_reads_0 32 rfl) rfl (lv_at hl 0 rfl) ?_
  refine og_getI OX12 X hq hH 6 (by decide) rfl kF_X12_118 (dk DX12_reads_0 33 rfl) ?_
  refine lv_icmp_lt (tgt := 77) X.x X.b (dk DX12_reads_0 34 rfl) (by decide) (fun c14 => ?_) (fun c14 => ?_)
  · replace hF := if_t hF c14
    refine lv_aload_n X.x X.b (dk DX12_reads_0 39 rfl) rfl (lv_at hl 0 rfl) ?_
    refine og_getR (t := 0) OX12 X hq hH 4 (by decide) rfl kF_X12_13 (dk DX12_reads_0 40 rfl) ?_
    refine lv_aload_n X.x X.b (dk DX12_reads_0 41 rfl) rfl (lv_at hl 0 rfl) ?_
    refine og_getI OX12 X hq hH 7 (by decide) rfl kF_X12_121 (dk DX12_reads_0 42 rfl) ?_
    obtain ⟨c15, hF⟩ := gd hF
    refine og_iald X hq hH 4 (by decide) rfl (inb_in c15) (dk DX12_reads_0 43 rfl) ?_
    refine lv_topi (fun v16 e17 => ?_)
    replace hF := bnd_e hF e17
    refine lv_istore_n (lv' := [(1, .int v16), (0, .ref (q 53))]) X.x X.b (dk DX12_reads_0 44 rfl) rfl hl (by decide) rfl (fun ls hl => ?_)
    replace hl : lv_has ls 2 [(0, .ref (q 53)), (1, .int v16)] := lv_sub hl [1, 0] rfl
    refine lv_iload_n X.x X.b (dk DX12_reads_0 45 rfl) rfl (lv_at hl 1 rfl) ?_
    obtain ⟨x18, e19, hF⟩ := bd hF
    refine mr_ci0 hH ⟨rfl, rfl⟩ (mr_runS (As := [.int v16]) (rest := []) X hH (c_X12_isLetter e19) kM_X12_130 kT_X12_isLetter kN_X12 kC_X12_isLetter hd_X12_isLetter ⟨Nat.le_of_ble_eq_true rfl, Nat.le_of_ble_eq_true rfl⟩ rfl hl.1 (Nat.le_of_ble_eq_true rfl) (dk DX12_reads_0 46 rfl) ⟨Nat.zero_le _, Nat.zero_le _⟩) (fun r h1 H locs hp hH => ?_)
    obtain ⟨hr1, hr2⟩ := hp; rw [hr1]; rw [hr2] at hH; clear hr1 hr2
    refine lv_if_eq (tgt := 129) X.x X.b (dk DX12_reads_0 47 rfl) (by decide) (fun c21 => ?_) (fun c21 => ?_)
    · replace hF := if_t hF c21
      refine lv_iload_n X.x X.b (dk DX12_reads_1 5 rfl) rfl (lv_at hl 1 rfl) ?_
      obtain ⟨x22, e23, hF⟩ := bd hF
      refine mr_ci0 hH ⟨rfl, rfl⟩ (mr_runS (As := [.int v16]) (rest := []) X hH (c_X12_isDigit e23) kM_X12_138 kT_X12_isDigit kN_X12 kC_X12_isDigit hd_X12_isDigit ⟨Nat.le_of_ble_eq_true rfl, Nat.le_of_ble_eq_true rfl⟩ rfl hl.1 (Nat.le_of_ble_eq_true rfl) (dk DX12_reads_1 6 rfl) ⟨Nat.zero_le _, Nat.zero_le _⟩) (fun r h1 H locs hp hH => ?_)
      obtain ⟨hr1, hr2⟩ := hp; rw [hr1]; rw [hr2] at hH; clear hr1 hr2
      refine lv_if_eq (tgt := 237) X.x X.b (dk DX12_reads_1 7 rfl) (by decide) (fun c25 => ?_) (fun c25 => ?_)
      · replace hF := if_t hF c25
        refine lv_aload_n X.x X.b (dk DX12_reads_2 1 rfl) rfl (lv_at hl 0 rfl) ?_
        refine lv_iload_n X.x X.b (dk DX12_reads_2 2 rfl) rfl (lv_at hl 1 rfl) ?_
        refine lv_bipush (v := 59) X.x X.b (dk DX12_reads_2 3 rfl) (by decide) ?_
        refine lv_icmp_ne (tgt := 248) X.x X.b (dk DX12_reads_2 4 rfl) (by decide) (fun c26 => ?_) (fun c26 => ?_)
        · replace hF := if_f hF c26
          refine lv_iconst (v := 4) X.x X.b (dk DX12_reads_2 7 rfl) (by decide) ?_
          refine og_putI OX12 X hq hH 9 (by decide) rfl kF_X12_127 rfl rfl rfl (dk DX12_reads_2 8 rfl) (fun H locs hH => ?_)
          obtain ⟨t27, e28⟩ : ∃ y, y = oI t12 9 4 := ⟨_, rfl⟩
          rw [← e28] at hH
          replace hF := bnd_e hF e28
          refine lv_aload_n X.x X.b (dk DX12_reads_2 9 rfl) rfl (lv_at hl 0 rfl) ?_
          refine lv_dup X.x X.b (dk DX12_reads_2 10 rfl) rfl ?_
          refine og_getI OX12 X hq hH 7 (by decide) rfl kF_X12_121 (dk DX12_reads_2 11 rfl) ?_
          refine lv_iconst (v := 1) X.x X.b (dk DX12_reads_2 12 rfl) (by decide) ?_
          refine lv_iadd X.x X.b (dk DX12_reads_2 13 rfl) ?_
          refine og_putI OX12 X hq hH 7 (by decide) rfl kF_X12_121 rfl rfl rfl (dk DX12_reads_2 14 rfl) (fun H locs hH => ?_)
          obtain ⟨t29, e30⟩ : ∃ y, y = oI t27 7 ((t27.1 7) + 1) := ⟨_, rfl⟩
          rw [← e30] at hH
          replace hF := bnd_e hF e30
          cases sm hF
          exact mr_vret X hr hlk hH rfl (dk DX12_reads_2 15 rfl)
        · replace hF := if_t hF c26
          refine lv_iconst (v := 3) X.x X.b (dk DX12_reads_2 5 rfl) (by decide) ?_
          refine lv_goto (tgt := 249) X.x X.b (dk DX12_reads_2 6 rfl) (by decide) ?_
          refine og_putI OX12 X hq hH 9 (by decide) rfl kF_X12_127 rfl rfl rfl (dk DX12_reads_2 8 rfl) (fun H locs hH => ?_)
          obtain ⟨t31, e32⟩ : ∃ y, y = oI t12 9 3 := ⟨_, rfl⟩
          rw [← e32] at hH
          replace hF := bnd_e hF e32
          refine lv_aload_n X.x X.b (dk DX12_reads_2 9 rfl) rfl (lv_at hl 0 rfl) ?_
          refine lv_dup X.x X.b (dk DX12_reads_2 10 rfl) rfl ?_
          refine og_getI OX12 X hq hH 7 (by decide) rfl kF_X12_121 (dk DX12_reads_2 11 rfl) ?_
          refine lv_iconst (v := 1) X.x X.b (dk DX12_reads_2 12 rfl) (by decide) ?_
          refine lv_iadd X.x X.b (dk DX12_reads_2 13 rfl) ?_
          refine og_putI OX12 X hq hH 7 (by decide) rfl kF_X12_121 rfl rfl rfl (dk DX12_reads_2 14 rfl) (fun H locs hH => ?_)
          obtain ⟨t33, e34⟩ : ∃ y, y = oI t31 7 ((t31.1 7) + 1) := ⟨_, rfl⟩
          rw [← e34] at hH
          replace hF := bnd_e hF e34
          cases sm hF
          exact mr_vret X hr hlk hH rfl (dk DX12_reads_2 15 rfl)
      · replace hF := if_f hF c25
        refine lv_aload_n X.x X.b (dk DX12_reads_1 8 rfl) rfl (lv_at hl 0 rfl) ?_
        refine lv_iconst (v := 0) X.x X.b (dk DX12_reads_1 9 rfl) (by decide) ?_
        refine og_putI OX12 X hq hH 10 (by decide) rfl kF_X12_141 rfl rfl rfl (dk DX12_reads_1 10 rfl) (fun H locs hH => ?_)
        obtain ⟨t35, e36⟩ : ∃ y, y = oI t12 10 0 := ⟨_, rfl⟩
        rw [← e36] at hH
        replace hF := bnd_e hF e36
        obtain ⟨x54, e55, hF⟩ := bd hF
        replace hl : lv_has ls 2 [(0, .ref (q 53))] := lv_sub hl [0] rfl
        refine w_X12_reads_141 hq X _ _ e55 _ _ _ hH hl (fun H locs ls hH hl => ?_)
        refine lv_aload_n X.x X.b (dk DX12_reads_1 48 rfl) rfl (lv_at hl 0 rfl) ?_
        refine lv_aload_n X.x X.b (dk DX12_reads_1 49 rfl) rfl (lv_at hl 0 rfl) ?_
        refine og_getI OX12 X hq hH 7 (by decide) rfl kF_X12_121 (dk DX12_reads_1 50 rfl) ?_
        refine lv_aload_n X.x X.b (dk DX12_reads_1 51 rfl) rfl (lv_at hl 0 rfl) ?_
        refine og_getI OX12 X hq hH 8 (by decide) rfl kF_X12_124 (dk DX12_reads_1 52 rfl) ?_
        refine lv_isub X.x X.b (dk DX12_reads_1 53 rfl) ?_
        refine lv_iconst (v := 3) X.x X.b (dk DX12_reads_1 54 rfl) (by decide) ?_
        refine lv_icmp_le (tgt := 230) X.x X.b (dk DX12_reads_1 55 rfl) (by decide) (fun c57 => ?_) (fun c57 => ?_)
        · replace hF := if_t hF c57
          refine lv_iconst (v := 2) X.x X.b (dk DX12_reads_1 58 rfl) (by decide) ?_
          refine og_putI OX12 X hq hH 9 (by decide) rfl kF_X12_127 rfl rfl rfl (dk DX12_reads_1 59 rfl) (fun H locs hH => ?_)
          obtain ⟨t58, e59⟩ : ∃ y, y = oI x54 9 2 := ⟨_, rfl⟩
          rw [← e59] at hH
          replace hF := bnd_e hF e59
          refine lv_goto (tgt := 262) X.x X.b (dk DX12_reads_2 0 rfl) (by decide) ?_
          cases sm hF
          exact mr_vret X hr hlk hH rfl (dk DX12_reads_2 15 rfl)
        · replace hF := if_f hF c57
          refine lv_iconst (v := 4) X.x X.b (dk DX12_reads_1 56 rfl) (by decide) ?_
          refine lv_goto (tgt := 231) X.x X.b (dk DX12_reads_1 57 rfl) (by decide) ?_
          refine og_putI OX12 X hq hH 9 (by decide) rfl kF_X12_127 rfl rfl rfl (dk DX12_reads_1 59 rfl) (fun H locs hH => ?_)
          obtain ⟨t60, e61⟩ : ∃ y, y = oI x54 9 4 := ⟨_, rfl⟩
          rw [← e61] at hH
          replace hF := bnd_e hF e61
          refine lv_goto (tgt := 262) X.x X.b (dk DX12_reads_2 0 rfl) (by decide) ?_
          cases sm hF
          exact mr_vret X hr hlk hH rfl (dk DX12_reads_2 15 rfl)
    · replace hF := if_f hF c21
      obtain ⟨x71, e72, hF⟩ := bd hF
      replace hl : lv_has ls 2 [(0, .ref (q 53))] := lv_sub hl [0] rfl
      refine w_X12_reads_94 hq X _ _ e72 _ _ _ hH hl (fun H locs ls hH hl => ?_)
      refine lv_aload_n X.x X.b (dk DX12_reads_1 1 rfl) rfl (lv_at hl 0 rfl) ?_
      refine lv_iconst (v := 1) X.x X.b (dk DX12_reads_1 2 rfl) (by decide) ?_
      refine og_putI OX12 X hq hH 9 (by decide) rfl kF_X12_127 rfl rfl rfl (dk DX12_reads_1 3 rfl) (fun H locs hH => ?_)
      obtain ⟨t74, e75⟩ : ∃ y, y = oI x71 9 1 := ⟨_, rfl⟩
      rw [← e75] at hH
      replace hF := bnd_e hF e75
      refine lv_goto (tgt := 262) X.x X.b (dk DX12_reads_1 4 rfl) (by decide) ?_
      cases sm hF
      exact mr_vret X hr hlk hH rfl (dk DX12_reads_2 15 rfl)
  · replace hF := if_f hF c14
    refine lv_aload_n X.x X.b (dk DX12_reads_0 35 rfl) rfl (lv_at hl 0 rfl) ?_
    refine lv_iconst (v := 0) X.x X.b (dk DX12_reads_0 36 rfl) (by decide) ?_
    refine og_putI OX12 X hq hH 9 (by decide) rfl kF_X12_127 rfl rfl rfl (dk DX12_reads_0 37 rfl) (fun H locs hH => ?_)
    obtain ⟨t76, e77⟩ : ∃ y, y = oI t12 9 0 := ⟨_, rfl⟩
    rw [← e77] at hH
    replace hF := bnd_e hF e77
    cases sm hF
    exact mr_vret X hr hlk hH rfl (dk DX12_reads_0 38 rfl)
-- X12_blames
abbrev rm_X12_blames : Room := { frames := 0, cells := 0, slots := 0, locals := 0 }
theorem hd_X12_blames : mHd yX12_blames 1 := ⟨by decide +kernel, by decide +kernel, by decide +kernel⟩
theorem DX12_blames_0 : ∀ t ∈ ([(0, .aload_n 0, 1), (1, .getfield 144, 3), (4, .ifCond .eq 4, 3), (7, .return_, 1), (8, .aload_n 0, 1), (9, .aload_n 0, 1), (10, .getfield 127, 3), (13, .iconst 4, 1), (14, .if_icmp .ne 7, 3), (17, .iconst 1, 1), (18, .goto 4, 3), (21, .iload_n 1, 1), (22, .putfield 144, 3), (25, .aload_n 0, 1), (26, .aload_n 0, 1), (27, .getfield 124, 3), (30, .putfield 147, 3), (33, .return_, 1)] : List (Nat × Instr × Nat)), decode cX12_blames t.1 = .ok (t.2.1, t.2.2) := by decide +kernel
noncomputable def f_X12_blames (st : OS) (a0 : Int32) : Option (OS) := (if (st.1 11) = 0 then (if (st.1 9) = 4 then bnd (oI st 11 1) (fun t7 => bnd (oI t7 12 (t7.1 8)) (fun t9 => some t9)) else bnd (oI st 11 a0) (fun t3 => bnd (oI t3 12 (t3.1 8)) (fun t5 => some t5))) else some st)
set_option maxHeartbeats 4000000 in
set_option maxRecDepth 100000 in
theorem c_X12_blames {l : Launch} {G : mG} {h : mM} {q : Nat → Nat} (hq : oinj LX12 q) {st : OS} {a0 : Int32} {x : OS} (hF : f_X12_blames st a0 = some x) : cQ l G yX12_blames cX12_blames 2 none rm_X12_blames [.ref (q 53), .int a0] (oset LX12 G q st h) (mQv G (fun h1 => h1 = oset LX12 G q x h)) := by
  refine mp_of (by decide +kernel) (Nat.le_of_ble_eq_true rfl) ?_
  intro p e s m below meth c X hr hlk hH hname ls hl
  dsimp only [f_X12_blames] at hF
  replace hl : lv_has ls 2 [(0, .ref (q 53)), (1, .int a0)] := hl
  refine lv_aload_n X.x X.b (dk DX12_blames_0 0 rfl) rfl (lv_at hl 0 rfl) ?_
  refine og_getI OX12 X hq hH 11 (by decide) rfl kF_X12_144 (dk DX12_blames_0 1 rfl) ?_
  refine lv_if_eq (tgt := 8) X.x X.b (dk DX12_blames_0 2 rfl) (by decide) (fun c1 => ?_) (fun c1 => ?_)
  · replace hF := if_t hF c1
    refine lv_aload_n X.x X.b (dk DX12_blames_0 4 rfl) rfl (lv_at hl 0 rfl) ?_
    refine lv_aload_n X.x X.b (dk DX12_blames_0 5 rfl) rfl (lv_at hl 0 rfl) ?_
    refine og_getI OX12 X hq hH 9 (by decide) rfl kF_X12_127 (dk DX12_blames_0 6 rfl) ?_
    refine lv_iconst (v := 4) X.x X.b (dk DX12_blames_0 7 rfl) (by decide) ?_
    refine lv_icmp_ne (tgt := 21) X.x X.b (dk DX12_blames_0 8 rfl) (by decide) (fun c2 => ?_) (fun c2 => ?_)
    · replace hF := if_f hF c2
      refine lv_iload_n X.x X.b (dk DX12_blames_0 11 rfl) rfl (lv_at hl 1 rfl) ?_
      refine og_putI OX12 X hq hH 11 (by decide) rfl kF_X12_144 rfl rfl rfl (dk DX12_blames_0 12 rfl) (fun H locs hH => ?_)
      obtain ⟨t3, e4⟩ : ∃ y, y = oI st 11 a0 := ⟨_, rfl⟩
      rw [← e4] at hH
      replace hF := bnd_e hF e4
      refine lv_aload_n X.x X.b (dk DX12_blames_0 13 rfl) rfl (lv_at hl 0 rfl) ?_
      refine lv_aload_n X.x X.b (dk DX12_blames_0 14 rfl) rfl (lv_at hl 0 rfl) ?_
      refine og_getI OX12 X hq hH 8 (by decide) rfl kF_X12_124 (dk DX12_blames_0 15 rfl) ?_
      refine og_putI OX12 X hq hH 12 (by decide) rfl kF_X12_147 rfl rfl rfl (dk DX12_blames_0 16 rfl) (fun H locs hH => ?_)
      obtain ⟨t5, e6⟩ : ∃ y, y = oI t3 12 (t3.1 8) := ⟨_, rfl⟩
      rw [← e6] at hH
      replace hF := bnd_e hF e6
      cases sm hF
      exact mr_vret X hr hlk hH rfl (dk DX12_blames_0 17 rfl)
    · replace hF := if_t hF c2
      refine lv_iconst (v := 1) X.x X.b (dk DX12_blames_0 9 rfl) (by decide) ?_
      refine lv_goto (tgt := 22) X.x X.b (dk DX12_blames_0 10 rfl) (by decide) ?_
      refine og_putI OX12 X hq hH 11 (by decide) rfl kF_X12_144 rfl rfl rfl (dk DX12_blames_0 12 rfl) (fun H locs hH => ?_)
      obtain ⟨t7, e8⟩ : ∃ y, y = oI st 11 1 := ⟨_, rfl⟩
      rw [← e8] at hH
      replace hF := bnd_e hF e8
      refine lv_aload_n X.x X.b (dk DX12_blames_0 13 rfl) rfl (lv_at hl 0 rfl) ?_
      refine lv_aload_n X.x X.b (dk DX12_blames_0 14 rfl) rfl (lv_at hl 0 rfl) ?_
      refine og_getI OX12 X hq hH 8 (by decide) rfl kF_X12_124 (dk DX12_blames_0 15 rfl) ?_
      refine og_putI OX12 X hq hH 12 (by decide) rfl kF_X12_147 rfl rfl rfl (dk DX12_blames_0 16 rfl) (fun H locs hH => ?_)
      obtain ⟨t9, e10⟩ : ∃ y, y = oI t7 12 (t7.1 8) := ⟨_, rfl⟩
      rw [← e10] at hH
      replace hF := bnd_e hF e10
      cases sm hF
      exact mr_vret X hr hlk hH rfl (dk DX12_blames_0 17 rfl)
  · replace hF := if_f hF c1
    cases sm hF
    exact mr_vret X hr hlk hH rfl (dk DX12_blames_0 3 rfl)
-- X12_isWord
abbrev rm_X12_isWord : Room := { frames := 4, cells := 0, slots := 0, locals := 85 }
theorem hd_X12_isWord : mHd yX12_isWord 1 := ⟨by decide +kernel, by decide +kernel, by decide +kernel⟩
theorem DX12_isWord_0 : ∀ t ∈ ([(0, .aload_n 0, 1), (1, .getfield 144, 3), (4, .ifCond .ne 31, 3), (7, .aload_n 0, 1), (8, .getfield 127, 3), (11, .iconst 1, 1), (12, .if_icmp .ne 23, 3), (15, .aload_n 0, 1), (16, .getfield 121, 3), (19, .aload_n 0, 1), (20, .getfield 124, 3), (23, .isub, 1), (24, .aload_n 1, 1), (25, .invokevirtual 150, 3), (28, .if_icmp .ne 7, 3), (31, .iconst 1, 1), (32, .goto 4, 3), (35, .iconst 0, 1), (36, .istore_n 2, 1), (37, .iconst 0, 1), (38, .istore_n 3, 1), (39, .iload_n 2, 1), (40, .ifCond .eq 42, 3), (43, .iload_n 3, 1), (44, .aload_n 1, 1), (45, .invokevirtual 150, 3), (48, .if_icmp .ge 34, 3), (51, .aload_n 0, 1), (52, .getfield 13, 3), (55, .aload_n 0, 1), (56, .getfield 124, 3), (59, .iload_n 3, 1), (60, .iadd, 1), (61, .iaload, 1), (62, .aload_n 1, 1), (63, .iload_n 3, 1), (64, .invokevirtual 156, 3), (67, .if_icmp .ne 7, 3), (70, .iconst 1, 1), (71, .goto 4, 3), (74, .iconst 0, 1), (75, .istore_n 2, 1), (76, .iinc 3 1, 3), (79, .goto (-40), 3), (82, .iload_n 2, 1), (83, .ireturn, 1)] : List (Nat × Instr × Nat)), decode cX12_isWord t.1 = .ok (t.2.1, t.2.2) := by decide +kernel
noncomputable def f_X12_isWord_39 (s_t : OS) (a0 : Nat) : (Int32 × Int32) → Option ((Int32 × Int32) ⊕ (Int32)) := fun z => match z with | (b2, b3) => (if b2 = 0 then some (.inr b2) else (if (nI (sLen a0)) ≤ b3 then some (.inr b2) else if inb ((s_t.1 8) + b3) 700 = true then if inb b3 (sLen a0) = true then (if (s_t.2.2.1 4 ((s_t.1 8) + b3 : Int32).toNatClampNeg) = (sCh a0 (b3 : Int32).toNatClampNeg) then bnd (b3 + 1 : Int32) (fun v9 => some (.inl ((1, v9)))) else bnd (b3 + 1 : Int32) (fun v7 => some (.inl ((0, v7))))) else none else none))
noncomputable def f_X12_isWord (st : OS) (a0 : Nat) : Option (Int32) := (if (st.1 11) = 0 then (if (st.1 9) = 1 then (if (st.1 7) - (st.1 8) = (nI (sLen a0)) then (lpv (f_X12_isWord_39 st a0) ((1, 0))).bind (fun x25 => if isb x25 = true then some x25 else none) else (lpv (f_X12_isWord_39 st a0) ((0, 0))).bind (fun x21 => if isb x21 = true then some x21 else none)) else (lpv (f_X12_isWord_39 st a0) ((0, 0))).bind (fun x16 => if isb x16 = true then some x16 else none)) else (lpv (f_X12_isWord_39 st a0) ((0, 0))).bind (fun x11 => if isb x11 = true then some x11 else none))
set_option maxHeartbeats 4000000 in
set_option maxRecDepth 100000 in
theorem w_X12_isWord_39 {p : Program} {l : Launch} {e : Env} {s : State} {m : MethodId} {args : Array Value} {below : List Frame} {meth : Method} {c : Code} {Q : State → Prop} {G : mG} {h : mM} {q : Nat → Nat} {a0 : Nat} (hq : oinj LX12 q) (hia0 : a0 < sTab.length) (X : mX G p m c cX12_isWord 4 s args RX12) (s_t : OS) : ∀ (z : Int32 × Int32) (r : Int32), lpv (f_X12_isWord_39 s_t a0) z = some r → ∀ (H : Heap) (locs : List Loc) (ls : Array Slot), mH G (oset LX12 G q s_t h) s.heap H locs → lv_has ls 4 [(0, .ref (q 53)), (1, .ref (sAd G a0)), (2, .int z.1), (3, .int z.2)] → (∀ (H : Heap) (locs : List Loc) (ls : Array Slot), mH G (oset LX12 G q s_t h) s.heap H locs → lv_has ls 4 [(2, .int r)] → W p l e rm_X12_isWord s m args below meth c H locs 0 0 Q (F0 m 82 ls [])) → W p l e rm_X12_isWord s m args below meth c H locs 0 0 Q (F0 m 39 ls []) := by
  refine lpv_rec ?_
  intro z r x hF hx H locs ls hH hl K0
  obtain ⟨b2, b3⟩ := z
  dsimp only [f_X12_isWord_39] at hF
  try dsimp only at hH hl
  refine lv_iload_n X.x X.b (dk DX12_isWord_0 21 rfl) rfl (lv_at hl 2 rfl) ?_
  refine lv_if_eq (tgt := 82) X.x X.b (dk DX12_isWord_0 22 rfl) (by decide) (fun c2 => ?_) (fun c2 => ?_)
  · replace hF := if_t hF c2
    have hr9 := lp_r hF hx
    subst hr9
    exact K0 _ _ _ hH (lv_sub hl [2] rfl)
  · replace hF := if_f hF c2
    refine lv_iload_n X.x X.b (dk DX12_isWord_0 23 rfl) rfl (lv_at hl 3 rfl) ?_
    refine lv_aload_n X.x X.b (dk DX12_isWord_0 24 rfl) rfl (lv_at hl 1 rfl) ?_
    refine mr_ci0 hH ⟨rfl, rfl⟩ (mr_runVO (As := []) (rest := [.int b3]) X hH (c_J0_length_8abf5 hia0) (X.z.1 a0 hia0).2.1 kM_X12_150 kI_J0_length_8abf5 kS_J0_length_8abf5 kN_J0 kC_J0_length_8abf5 hd_J0_length_8abf5 ⟨Nat.le_of_ble_eq_true rfl, Nat.le_of_ble_eq_true rfl⟩ rfl hl.1 (Nat.le_of_ble_eq_true rfl) (dk DX12_isWord_0 25 rfl) ⟨Nat.zero_le _, Nat.zero_le _⟩) (fun r h1 H locs hp hH => ?_)
    obtain ⟨hr1, hr2⟩ := hp; rw [hr1]; rw [hr2] at hH; clear hr1 hr2
    refine lv_icmp_ge (tgt := 82) X.x X.b (dk DX12_isWord_0 26 rfl) (by decide) (fun c3 => ?_) (fun c3 => ?_)
    · replace hF := if_t hF c3
      have hr9 := lp_r hF hx
      subst hr9
      exact K0 _ _ _ hH (lv_sub hl [2] rfl)
    · replace hF := if_f hF c3
      refine lv_aload_n X.x X.b (dk DX12_isWord_0 27 rfl) rfl (lv_at hl 0 rfl) ?_
      refine og_getR (t := 0) OX12 X hq hH 4 (by decide) rfl kF_X12_13 (dk DX12_isWord_0 28 rfl) ?_
      refine lv_aload_n X.x X.b (dk DX12_isWord_0 29 rfl) rfl (lv_at hl 0 rfl) ?_
      refine og_getI OX12 X hq hH 8 (by decide) rfl kF_X12_124 (dk DX12_isWord_0 30 rfl) ?_
      refine lv_iload_n X.x X.b (dk DX12_isWord_0 31 rfl) rfl (lv_at hl 3 rfl) ?_
      refine lv_iadd X.x X.b (dk DX12_isWord_0 32 rfl) ?_
      obtain ⟨c4, hF⟩ := gd hF
      refine og_iald X hq hH 4 (by decide) rfl (inb_in c4) (dk DX12_isWord_0 33 rfl) ?_
      refine lv_aload_n X.x X.b (dk DX12_isWord_0 34 rfl) rfl (lv_at hl 1 rfl) ?_
      refine lv_iload_n X.x X.b (dk DX12_isWord_0 35 rfl) rfl (lv_at hl 3 rfl) ?_
      obtain ⟨c5, hF⟩ := gd hF
      refine mr_ci0 hH ⟨rfl, rfl⟩ (mr_runVO (As := [.int b3]) (rest := [.int (s_t.2.2.1 4 ((s_t.1 8) + b3 : Int32).toNatClampNeg)]) X hH (c_charAt hia0 (inb_in c5)) (X.z.1 a0 hia0).2.1 kM_X12_156 kI_J0_charAt_5068e kS_J0_charAt_5068e kN_J0 kC_J0_charAt_5068e hd_J0_charAt_5068e ⟨Nat.le_of_ble_eq_true rfl, Nat.le_of_ble_eq_true rfl⟩ rfl hl.1 (Nat.le_of_ble_eq_true rfl) (dk DX12_isWord_0 36 rfl) ⟨Nat.zero_le _, Nat.zero_le _⟩) (fun r h1 H locs hp hH => ?_)
      obtain ⟨hr1, hr2⟩ := hp; rw [hr1]; rw [hr2] at hH; clear hr1 hr2
      refine lv_icmp_ne (tgt := 74) X.x X.b (dk DX12_isWord_0 37 rfl) (by decide) (fun c6 => ?_) (fun c6 => ?_)
      · replace hF := if_f hF c6
        refine lv_iconst (v := 0) X.x X.b (dk DX12_isWord_0 40 rfl) (by decide) ?_
        refine lv_istore_n (lv' := [(2, .int 0), (0, .ref (q 53)), (1, .ref (sAd G a0)), (3, .int b3)]) X.x X.b (dk DX12_isWord_0 41 rfl) rfl hl (by decide) rfl (fun ls hl => ?_)
        replace hl : lv_has ls 4 [(0, .ref (q 53)), (1, .ref (sAd G a0)), (2, .int 0), (3, .int b3)] := lv_sub hl [1, 2, 0, 3] rfl
        obtain ⟨v7, e8⟩ : ∃ y : Int32, y = b3 + 1 := ⟨_, rfl⟩
        replace hF := bnd_e hF e8
        refine lv_iinc (v := v7) (lv' := [(3, .int v7), (0, .ref (q 53)), (1, .ref (sAd G a0)), (2, .int 0)]) X.x X.b (dk DX12_isWord_0 42 rfl) hl (k := 3) rfl (by rw [e8]; rfl) (by decide) rfl (fun ls hl => ?_)
        replace hl : lv_has ls 4 [(0, .ref (q 53)), (1, .ref (sAd G a0)), (2, .int 0), (3, .int v7)] := lv_sub hl [1, 2, 3, 0] rfl
        refine lv_goto (tgt := 39) X.x X.b (dk DX12_isWord_0 43 rfl) (by decide) ?_
        exact (lp_l hF hx) _ _ _ hH (lv_sub hl [0, 1, 2, 3] rfl) K0
      · replace hF := if_t hF c6
        refine lv_iconst (v := 1) X.x X.b (dk DX12_isWord_0 38 rfl) (by decide) ?_
        refine lv_goto (tgt := 75) X.x X.b (dk DX12_isWord_0 39 rfl) (by decide) ?_
        refine lv_istore_n (lv' := [(2, .int 1), (0, .ref (q 53)), (1, .ref (sAd G a0)), (3, .int b3)]) X.x X.b (dk DX12_isWord_0 41 rfl) rfl hl (by decide) rfl (fun ls hl => ?_)
        replace hl : lv_has ls 4 [(0, .ref (q 53)), (1, .ref (sAd G a0)), (2, .int 1), (3, .int b3)] := lv_sub hl [1, 2, 0, 3] rfl
        obtain ⟨v9, e10⟩ : ∃ y : Int32, y = b3 + 1 := ⟨_, rfl⟩
        replace hF := bnd_e hF e10
        refine lv_iinc (v := v9) (lv' := [(3, .int v9), (0, .ref (q 53)), (1, .ref (sAd G a0)), (2, .int 1)]) X.x X.b (dk DX12_isWord_0 42 rfl) hl (k := 3) rfl (by rw [e10]; rfl) (by decide) rfl (fun ls hl => ?_)
        replace hl : lv_has ls 4 [(0, .ref (q 53)), (1, .ref (sAd G a0)), (2, .int 1), (3, .int v9)] := lv_sub hl [1, 2, 3, 0] rfl
        refine lv_goto (tgt := 39) X.x X.b (dk DX12_isWord_0 43 rfl) (by decide) ?_
        exact (lp_l hF hx) _ _ _ hH (lv_sub hl [0, 1, 2, 3] rfl) K0
set_option maxHeartbeats 4000000 in
set_option maxRecDepth 100000 in
theorem c_X12_isWord {l : Launch} {G : mG} {h : mM} {q : Nat → Nat} {a0 : Nat} (hq : oinj LX12 q) (hia0 : a0 < sTab.length) {st : OS} {x : Int32} (hF : f_X12_isWord st a0 = some x) : cQ l G yX12_isWord cX12_isWord 4 (some FieldType.boolean) rm_X12_isWord [.ref (q 53), .ref (sAd G a0)] (oset LX12 G q st h) (mQi G (fun r h1 => r = x ∧ h1 = oset LX12 G q st h)) := by
  refine mp_of (by decide +kernel) (Nat.le_of_ble_eq_true rfl) ?_
  intro p e s m below meth c X hr hlk hH hname ls hl
  dsimp only [f_X12_isWord] at hF
  replace hl : lv_has ls 4 [(0, .ref (q 53)), (1, .ref (sAd G a0))] := hl
  refine lv_aload_n X.x X.b (dk DX12_isWord_0 0 rfl) rfl (lv_at hl 0 rfl) ?_
  refine og_getI OX12 X hq hH 11 (by decide) rfl kF_X12_144 (dk DX12_isWord_0 1 rfl) ?_
  refine lv_if_ne (tgt := 35) X.x X.b (dk DX12_isWord_0 2 rfl) (by decide) (fun c1 => ?_) (fun c1 => ?_)
  · replace hF := if_f hF c1
    refine lv_iconst (v := 0) X.x X.b (dk DX12_isWord_0 17 rfl) (by decide) ?_
    refine lv_istore_n (lv' := [(2, .int 0), (0, .ref (q 53)), (1, .ref (sAd G a0))]) X.x X.b (dk DX12_isWord_0 18 rfl) rfl hl (by decide) rfl (fun ls hl => ?_)
    replace hl : lv_has ls 4 [(0, .ref (q 53)), (1, .ref (sAd G a0)), (2, .int 0)] := lv_sub hl [1, 2, 0] rfl
    refine lv_iconst (v := 0) X.x X.b (dk DX12_isWord_0 19 rfl) (by decide) ?_
    refine lv_istore_n (lv' := [(3, .int 0), (0, .ref (q 53)), (1, .ref (sAd G a0)), (2, .int 0)]) X.x X.b (dk DX12_isWord_0 20 rfl) rfl hl (by decide) rfl (fun ls hl => ?_)
    replace hl : lv_has ls 4 [(0, .ref (q 53)), (1, .ref (sAd G a0)), (2, .int 0), (3, .int 0)] := lv_sub hl [1, 2, 3, 0] rfl
    obtain ⟨x11, e12, hF⟩ := bd hF
    replace hl : lv_has ls 4 [(0, .ref (q 53)), (1, .ref (sAd G a0)), (2, .int 0), (3, .int 0)] := lv_sub hl [0, 1, 2, 3] rfl
    refine w_X12_isWord_39 hq hia0 X st _ _ e12 _ _ _ hH hl (fun H locs ls hH hl => ?_)
    refine lv_iload_n X.x X.b (dk DX12_isWord_0 44 rfl) rfl (lv_at hl 0 rfl) ?_
    obtain ⟨c14, hF⟩ := gd hF
    cases sm hF
    exact mr_zret X hr hlk hH (isb_nar c14) ⟨rfl, rfl⟩ (dk DX12_isWord_0 45 rfl)
  · replace hF := if_t hF c1
    refine lv_aload_n X.x X.b (dk DX12_isWord_0 3 rfl) rfl (lv_at hl 0 rfl) ?_
    refine og_getI OX12 X hq hH 9 (by decide) rfl kF_X12_127 (dk DX12_isWord_0 4 rfl) ?_
    refine lv_iconst (v := 1) X.x X.b (dk DX12_isWord_0 5 rfl) (by decide) ?_
    refine lv_icmp_ne (tgt := 35) X.x X.b (dk DX12_isWord_0 6 rfl) (by decide) (fun c15 => ?_) (fun c15 => ?_)
    · replace hF := if_f hF c15
      refine lv_iconst (v := 0) X.x X.b (dk DX12_isWord_0 17 rfl) (by decide) ?_
      refine lv_istore_n (lv' := [(2, .int 0), (0, .ref (q 53)), (1, .ref (sAd G a0))]) X.x X.b (dk DX12_isWord_0 18 rfl) rfl hl (by decide) rfl (fun ls hl => ?_)
      replace hl : lv_has ls 4 [(0, .ref (q 53)), (1, .ref (sAd G a0)), (2, .int 0)] := lv_sub hl [1, 2, 0] rfl
      refine lv_iconst (v := 0) X.x X.b (dk DX12_isWord_0 19 rfl) (by decide) ?_
      refine lv_istore_n (lv' := [(3, .int 0), (0, .ref (q 53)), (1, .ref (sAd G a0)), (2, .int 0)]) X.x X.b (dk DX12_isWord_0 20 rfl) rfl hl (by decide) rfl (fun ls hl => ?_)
      replace hl : lv_has ls 4 [(0, .ref (q 53)), (1, .ref (sAd G a0)), (2, .int 0), (3, .int 0)] := lv_sub hl [1, 2, 3, 0] rfl
      obtain ⟨x16, e17, hF⟩ := bd hF
      replace hl : lv_has ls 4 [(0, .ref (q 53)), (1, .ref (sAd G a0)), (2, .int 0), (3, .int 0)] := lv_sub hl [0, 1, 2, 3] rfl
      refine w_X12_isWord_39 hq hia0 X st _ _ e17 _ _ _ hH hl (fun H locs ls hH hl => ?_)
      refine lv_iload_n X.x X.b (dk DX12_isWord_0 44 rfl) rfl (lv_at hl 0 rfl) ?_
      obtain ⟨c19, hF⟩ := gd hF
      cases sm hF
      exact mr_zret X hr hlk hH (isb_nar c19) ⟨rfl, rfl⟩ (dk DX12_isWord_0 45 rfl)
    · replace hF := if_t hF c15
      refine lv_aload_n X.x X.b (dk DX12_isWord_0 7 rfl) rfl (lv_at hl 0 rfl) ?_
      refine og_getI OX12 X hq hH 7 (by decide) rfl kF_X12_121 (dk DX12_isWord_0 8 rfl) ?_
      refine lv_aload_n X.x X.b (dk DX12_isWord_0 9 rfl) rfl (lv_at hl 0 rfl) ?_
      refine og_getI OX12 X hq hH 8 (by decide) rfl kF_X12_124 (dk DX12_isWord_0 10 rfl) ?_
      refine lv_isub X.x X.b (dk DX12_isWord_0 11 rfl) ?_
      refine lv_aload_n X.x X.b (dk DX12_isWord_0 12 rfl) rfl (lv_at hl 1 rfl) ?_
      refine mr_ci0 hH ⟨rfl, rfl⟩ (mr_runVO (As := []) (rest := [.int ((st.1 7) - (st.1 8))]) X hH (c_J0_length_8abf5 hia0) (X.z.1 a0 hia0).2.1 kM_X12_150 kI_J0_length_8abf5 kS_J0_length_8abf5 kN_J0 kC_J0_length_8abf5 hd_J0_length_8abf5 ⟨Nat.le_of_ble_eq_true rfl, Nat.le_of_ble_eq_true rfl⟩ rfl hl.1 (Nat.le_of_ble_eq_true rfl) (dk DX12_isWord_0 13 rfl) ⟨Nat.zero_le _, Nat.zero_le _⟩) (fun r h1 H locs hp hH => ?_)
      obtain ⟨hr1, hr2⟩ := hp; rw [hr1]; rw [hr2] at hH; clear hr1 hr2
      refine lv_icmp_ne (tgt := 35) X.x X.b (dk DX12_isWord_0 14 rfl) (by decide) (fun c20 => ?_) (fun c20 => ?_)
      · replace hF := if_f hF c20
        refine lv_iconst (v := 0) X.x X.b (dk DX12_isWord_0 17 rfl) (by decide) ?_
        refine lv_istore_n (lv' := [(2, .int 0), (0, .ref (q 53)), (1, .ref (sAd G a0))]) X.x X.b (dk DX12_isWord_0 18 rfl) rfl hl (by decide) rfl (fun ls hl => ?_)
        replace hl : lv_has ls 4 [(0, .ref (q 53)), (1, .ref (sAd G a0)), (2, .int 0)] := lv_sub hl [1, 2, 0] rfl
        refine lv_iconst (v := 0) X.x X.b (dk DX12_isWord_0 19 rfl) (by decide) ?_
        refine lv_istore_n (lv' := [(3, .int 0), (0, .ref (q 53)), (1, .ref (sAd G a0)), (2, .int 0)]) X.x X.b (dk DX12_isWord_0 20 rfl) rfl hl (by decide) rfl (fun ls hl => ?_)
        replace hl : lv_has ls 4 [(0, .ref (q 53)), (1, .ref (sAd G a0)), (2, .int 0), (3, .int 0)] := lv_sub hl [1, 2, 3, 0] rfl
        obtain ⟨x21, e22, hF⟩ := bd hF
        replace hl : lv_has ls 4 [(0, .ref (q 53)), (1, .ref (sAd G a0)), (2, .int 0), (3, .int 0)] := lv_sub hl [0, 1, 2, 3] rfl
        refine w_X12_isWord_39 hq hia0 X st _ _ e22 _ _ _ hH hl (fun H locs ls hH hl => ?_)
        refine lv_iload_n X.x X.b (dk DX12_isWord_0 44 rfl) rfl (lv_at hl 0 rfl) ?_
        obtain ⟨c24, hF⟩ := gd hF
        cases sm hF
        exact mr_zret X hr hlk hH (isb_nar c24) ⟨rfl, rfl⟩ (dk DX12_isWord_0 45 rfl)
      · replace hF := if_t hF c20
        refine lv_iconst (v := 1) X.x X.b (dk DX12_isWord_0 15 rfl) (by decide) ?_
        refine lv_goto (tgt := 36) X.x X.b (dk DX12_isWord_0 16 rfl) (by decide) ?_
        refine lv_istore_n (lv' := [(2, .int 1), (0, .ref (q 53)), (1, .ref (sAd G a0))]) X.x X.b (dk DX12_isWord_0 18 rfl) rfl hl (by decide) rfl (fun ls hl => ?_)
        replace hl : lv_has ls 4 [(0, .ref (q 53)), (1, .ref (sAd G a0)), (2, .int 1)] := lv_sub hl [1, 2, 0] rfl
        refine lv_iconst (v := 0) X.x X.b (dk DX12_isWord_0 19 rfl) (by decide) ?_
        refine lv_istore_n (lv' := [(3, .int 0), (0, .ref (q 53)), (1, .ref (sAd G a0)), (2, .int 1)]) X.x X.b (dk DX12_isWord_0 20 rfl) rfl hl (by decide) rfl (fun ls hl => ?_)
        replace hl : lv_has ls 4 [(0, .ref (q 53)), (1, .ref (sAd G a0)), (2, .int 1), (3, .int 0)] := lv_sub hl [1, 2, 3, 0] rfl
        obtain ⟨x25, e26, hF⟩ := bd hF
        replace hl : lv_has ls 4 [(0, .ref (q 53)), (1, .ref (sAd G a0)), (2, .int 1), (3, .int 0)] := lv_sub hl [0, 1, 2, 3] rfl
        refine w_X12_isWord_39 hq hia0 X st _ _ e26 _ _ _ hH hl (fun H locs ls hH hl => ?_)
        refine lv_iload_n X.x X.b (dk DX12_isWord_0 44 rfl) rfl (lv_at hl 0 rfl) ?_
        obtain ⟨c28, hF⟩ := gd hF
        cases sm hF
        exact mr_zret X hr hlk hH (isb_nar c28) ⟨rfl, rfl⟩ (dk DX12_isWord_0 45 rfl)
-- X12_took
abbrev rm_X12_took : Room := { frames := 5, cells := 0, slots := 0, locals := 108 }
theorem hd_X12_took : mHd yX12_took 1 := ⟨by decide +kernel, by decide +kernel, by decide +kernel⟩
theorem DX12_took_0 : ∀ t ∈ ([(0, .aload_n 0, 1), (1, .aload_n 1, 1), (2, .invokevirtual 160, 3), (5, .istore_n 2, 1), (6, .iload_n 2, 1), (7, .ifCond .eq 7, 3), (10, .aload_n 0, 1), (11, .invokevirtual 164, 3), (14, .iload_n 2, 1), (15, .ireturn, 1)] : List (Nat × Instr × Nat)), decode cX12_took t.1 = .ok (t.2.1, t.2.2) := by decide +kernel
noncomputable def f_X12_took (st : OS) (a0 : Nat) : Option (Int32 × OS) := (f_X12_isWord st a0).bind (fun x1 => (if x1 = 0 then if isb x1 = true then some ((x1, st)) else none else (f_X12_reads st).bind (fun x6 => if isb x1 = true then some ((x1, x6)) else none)))
set_option maxHeartbeats 4000000 in
set_option maxRecDepth 100000 in
theorem c_X12_took {l : Launch} {G : mG} {h : mM} {q : Nat → Nat} {a0 : Nat} (hq : oinj LX12 q) (hia0 : a0 < sTab.length) {st : OS} {x : Int32 × OS} (hF : f_X12_took st a0 = some x) : cQ l G yX12_took cX12_took 3 (some FieldType.boolean) rm_X12_took [.ref (q 53), .ref (sAd G a0)] (oset LX12 G q st h) (mQi G (fun r h1 => r = x.1 ∧ h1 = oset LX12 G q x.2 h)) := by
  refine mp_of (by decide +kernel) (Nat.le_of_ble_eq_true rfl) ?_
  intro p e s m below meth c X hr hlk hH hname ls hl
  dsimp only [f_X12_took] at hF
  replace hl : lv_has ls 3 [(0, .ref (q 53)), (1, .ref (sAd G a0))] := hl
  refine lv_aload_n X.x X.b (dk DX12_took_0 0 rfl) rfl (lv_at hl 0 rfl) ?_
  refine lv_aload_n X.x X.b (dk DX12_took_0 1 rfl) rfl (lv_at hl 1 rfl) ?_
  obtain ⟨x1, e2, hF⟩ := bd hF
  refine mr_ci0 hH ⟨rfl, rfl⟩ (mr_runV (As := [.ref (sAd G a0)]) (rest := []) X hH (c_X12_isWord hq hia0 e2) ((oset_at hq (Nat.le_refl _) ohas_N).trans (congrArg some ocell_N)) OX12.1 kM_X12_160 kI_X12_isWord kS_X12_isWord kN_X12 kC_X12_isWord hd_X12_isWord ⟨Nat.le_of_ble_eq_true rfl, Nat.le_of_ble_eq_true rfl⟩ rfl hl.1 (Nat.le_of_ble_eq_true rfl) (dk DX12_took_0 2 rfl) ⟨Nat.zero_le _, Nat.zero_le _⟩) (fun r h1 H locs hp hH => ?_)
  obtain ⟨hr1, hr2⟩ := hp; rw [hr1]; rw [hr2] at hH; clear hr1 hr2
  refine lv_istore_n (lv' := [(2, .int x1), (0, .ref (q 53)), (1, .ref (sAd G a0))]) X.x X.b (dk DX12_took_0 3 rfl) rfl hl (by decide) rfl (fun ls hl => ?_)
  replace hl : lv_has ls 3 [(0, .ref (q 53)), (2, .int x1)] := lv_sub hl [1, 0] rfl
  refine lv_iload_n X.x X.b (dk DX12_took_0 4 rfl) rfl (lv_at hl 1 rfl) ?_
  refine lv_if_eq (tgt := 14) X.x X.b (dk DX12_took_0 5 rfl) (by decide) (fun c4 => ?_) (fun c4 => ?_)
  · replace hF := if_t hF c4
    refine lv_iload_n X.x X.b (dk DX12_took_0 8 rfl) rfl (lv_at hl 1 rfl) ?_
    obtain ⟨c5, hF⟩ := gd hF
    cases sm hF
    exact mr_zret X hr hlk hH (isb_nar c5) ⟨rfl, rfl⟩ (dk DX12_took_0 9 rfl)
  · replace hF := if_f hF c4
    refine lv_aload_n X.x X.b (dk DX12_took_0 6 rfl) rfl (lv_at hl 0 rfl) ?_
    obtain ⟨x6, e7, hF⟩ := bd hF
    refine mr_cv0 hH ⟨rfl, rfl⟩ (mr_runV (As := []) (rest := []) X hH (c_X12_reads hq e7) ((oset_at hq (Nat.le_refl _) ohas_N).trans (congrArg some ocell_N)) OX12.1 kM_X12_164 kI_X12_reads kS_X12_reads kN_X12 kC_X12_reads hd_X12_reads ⟨Nat.le_of_ble_eq_true rfl, Nat.le_of_ble_eq_true rfl⟩ rfl hl.1 (Nat.le_of_ble_eq_true rfl) (dk DX12_took_0 7 rfl) ⟨Nat.zero_le _, Nat.zero_le _⟩) (fun h1 H locs hp hH => ?_)
    rw [hp] at hH; clear hp
    refine lv_iload_n X.x X.b (dk DX12_took_0 8 rfl) rfl (lv_at hl 1 rfl) ?_
    obtain ⟨c9, hF⟩ := gd hF
    cases sm hF
    exact mr_zret X hr hlk hH (isb_nar c9) ⟨rfl, rfl⟩ (dk DX12_took_0 9 rfl)
-- X12_number
abbrev rm_X12_number : Room := { frames := 2, cells := 0, slots := 0, locals := 42 }
theorem hd_X12_number : mHd yX12_number 2 := ⟨by decide +kernel, by decide +kernel, by decide +kernel⟩
theorem DX12_number_0 : ∀ t ∈ ([(0, .aload_n 0, 1), (1, .getfield 127, 3), (4, .iconst 2, 1), (5, .if_icmp .eq 11, 3), (8, .aload_n 0, 1), (9, .iconst 2, 1), (10, .invokevirtual 167, 3), (13, .goto 23, 3), (16, .aload_n 0, 1), (17, .getfield 141, 3), (20, .i2l, 1), (21, .iload_n 1, 1), (22, .i2l, 1), (23, .iload_n 2, 1), (24, .i2l, 1), (25, .invokestatic 171, 3), (28, .ifCond .ne 8, 3), (31, .aload_n 0, 1), (32, .iconst 3, 1), (33, .invokevirtual 167, 3), (36, .aload_n 0, 1), (37, .getfield 141, 3), (40, .istore_n 3, 1), (41, .aload_n 0, 1), (42, .getfield 144, 3), (45, .ifCond .ne 7, 3), (48, .aload_n 0, 1), (49, .invokevirtual 164, 3), (52, .aload_n 0, 1), (53, .getfield 144, 3), (56, .ifCond .ne 7, 3), (59, .iload_n 3, 1), (60, .goto 4, 3), (63, .iload_n 1, 1), (64, .ireturn, 1)] : List (Nat × Instr × Nat)), decode cX12_number t.1 = .ok (t.2.1, t.2.2) := by decide +kernel
noncomputable def f_X12_number (st : OS) (a0 : Int32) (a1 : Int32) : Option (Int32 × OS) := (if (st.1 9) = 2 then (f_X12_within ((st.1 10 : Int32).toInt64) ((a0 : Int32).toInt64) ((a1 : Int32).toInt64)).bind (fun x2 => (if x2 = 0 then (f_X12_blames st 3).bind (fun x14 => bnd (x14.1 10 : Int32) (fun v17 => (if (x14.1 11) = 0 then (f_X12_reads x14).bind (fun x21 => (if (x21.1 11) = 0 then some ((v17, x21)) else some ((a0, x21)))) else (if (x14.1 11) = 0 then some ((v17, x14)) else some ((a0, x14)))))) else bnd (st.1 10 : Int32) (fun v6 => (if (st.1 11) = 0 then (f_X12_reads st).bind (fun x10 => (if (x10.1 11) = 0 then some ((v6, x10)) else some ((a0, x10)))) else (if (st.1 11) = 0 then some ((v6, st)) else some ((a0, st))))))) else (f_X12_blames st 2).bind (fun x25 => bnd (x25.1 10 : Int32) (fun v28 => (if (x25.1 11) = 0 then (f_X12_reads x25).bind (fun x32 => (if (x32.1 11) = 0 then some ((v28, x32)) else some ((a0, x32)))) else (if (x25.1 11) = 0 then some ((v28, x25)) else some ((a0, x25)))))))
set_option maxHeartbeats 4000000 in
set_option maxRecDepth 100000 in
theorem c_X12_number {l : Launch} {G : mG} {h : mM} {q : Nat → Nat} (hq : oinj LX12 q) {st : OS} {a0 : Int32} {a1 : Int32} {x : Int32 × OS} (hF : f_X12_number st a0 a1 = some x) : cQ l G yX12_number cX12_number 4 (some FieldType.int) rm_X12_number [.ref (q 53), .int a0, .int a1] (oset LX12 G q st h) (mQi G (fun r h1 => r = x.1 ∧ h1 = oset LX12 G q x.2 h)) := by
  refine mp_of (by decide +kernel) (Nat.le_of_ble_eq_true rfl) ?_
  intro p e s m below meth c X hr hlk hH hname ls hl
  dsimp only [f_X12_number] at hF
  replace hl : lv_has ls 4 [(0, .ref (q 53)), (1, .int a0), (2, .int a1)] := hl
  refine lv_aload_n X.x X.b (dk DX12_number_0 0 rfl) rfl (lv_at hl 0 rfl) ?_
  refine og_getI OX12 X hq hH 9 (by decide) rfl kF_X12_127 (dk DX12_number_0 1 rfl) ?_
  refine lv_iconst (v := 2) X.x X.b (dk DX12_number_0 2 rfl) (by decide) ?_
  refine lv_icmp_eq (tgt := 16) X.x X.b (dk DX12_number_0 3 rfl) (by decide) (fun c1 => ?_) (fun c1 => ?_)
  · replace hF := if_t hF c1
    refine lv_aload_n X.x X.b (dk DX12_number_0 8 rfl) rfl (lv_at hl 0 rfl) ?_
    refine og_getI OX12 X hq hH 10 (by decide) rfl kF_X12_141 (dk DX12_number_0 9 rfl) ?_
    refine lv_i2l X.x X.b (dk DX12_number_0 10 rfl) rfl ?_
    refine lv_iload_n X.x X.b (dk DX12_number_0 11 rfl) rfl (lv_at hl 1 rfl) ?_
    refine lv_i2l X.x X.b (dk DX12_number_0 12 rfl) rfl ?_
    refine lv_iload_n X.x X.b (dk DX12_number_0 13 rfl) rfl (lv_at hl 2 rfl) ?_
    refine lv_i2l X.x X.b (dk DX12_number_0 14 rfl) rfl ?_
    obtain ⟨x2, e3, hF⟩ := bd hF
    refine mr_ci0 hH ⟨rfl, rfl⟩ (mr_runS (As := [.long ((st.1 10 : Int32).toInt64), .long ((a0 : Int32).toInt64), .long ((a1 : Int32).toInt64)]) (rest := []) X hH (c_X12_within e3) kM_X12_171 kT_X12_within kN_X12 kC_X12_within hd_X12_within ⟨Nat.le_of_ble_eq_true rfl, Nat.le_of_ble_eq_true rfl⟩ rfl hl.1 (Nat.le_of_ble_eq_true rfl) (dk DX12_number_0 15 rfl) ⟨Nat.zero_le _, Nat.zero_le _⟩) (fun r h1 H locs hp hH => ?_)
    obtain ⟨hr1, hr2⟩ := hp; rw [hr1]; rw [hr2] at hH; clear hr1 hr2
    refine lv_if_ne (tgt := 36) X.x X.b (dk DX12_number_0 16 rfl) (by decide) (fun c5 => ?_) (fun c5 => ?_)
    · replace hF := if_f hF c5
      refine lv_aload_n X.x X.b (dk DX12_number_0 20 rfl) rfl (lv_at hl 0 rfl) ?_
      refine og_getI OX12 X hq hH 10 (by decide) rfl kF_X12_141 (dk DX12_number_0 21 rfl) ?_
      refine lv_topi (fun v6 e7 => ?_)
      replace hF := bnd_e hF e7
      refine lv_istore_n (lv' := [(3, .int v6), (0, .ref (q 53)), (1, .int a0), (2, .int a1)]) X.x X.b (dk DX12_number_0 22 rfl) rfl hl (by decide) rfl (fun ls hl => ?_)
      replace hl : lv_has ls 4 [(0, .ref (q 53)), (1, .int a0), (3, .int v6)] := lv_sub hl [1, 2, 0] rfl
      refine lv_aload_n X.x X.b (dk DX12_number_0 23 rfl) rfl (lv_at hl 0 rfl) ?_
      refine og_getI OX12 X hq hH 11 (by decide) rfl kF_X12_144 (dk DX12_number_0 24 rfl) ?_
      refine lv_if_ne (tgt := 52) X.x X.b (dk DX12_number_0 25 rfl) (by decide) (fun c8 => ?_) (fun c8 => ?_)
      · replace hF := if_f hF c8
        refine lv_aload_n X.x X.b (dk DX12_number_0 28 rfl) rfl (lv_at hl 0 rfl) ?_
        refine og_getI OX12 X hq hH 11 (by decide) rfl kF_X12_144 (dk DX12_number_0 29 rfl) ?_
        refine lv_if_ne (tgt := 63) X.x X.b (dk DX12_number_0 30 rfl) (by decide) (fun c9 => ?_) (fun c9 => ?_)
        · replace hF := if_f hF c9
          refine lv_iload_n X.x X.b (dk DX12_number_0 33 rfl) rfl (lv_at hl 1 rfl) ?_
          cases sm hF
          exact mr_iret X hr hlk hH ⟨rfl, rfl⟩ (dk DX12_number_0 34 rfl)
        · replace hF := if_t hF c9
          refine lv_iload_n X.x X.b (dk DX12_number_0 31 rfl) rfl (lv_at hl 2 rfl) ?_
          refine lv_goto (tgt := 64) X.x X.b (dk DX12_number_0 32 rfl) (by decide) ?_
          cases sm hF
          exact mr_iret X hr hlk hH ⟨rfl, rfl⟩ (dk DX12_number_0 34 rfl)
      · replace hF := if_t hF c8
        refine lv_aload_n X.x X.b (dk DX12_number_0 26 rfl) rfl (lv_at hl 0 rfl) ?_
        obtain ⟨x10, e11, hF⟩ := bd hF
        refine mr_cv0 hH ⟨rfl, rfl⟩ (mr_runV (As := []) (rest := []) X hH (c_X12_reads hq e11) ((oset_at hq (Nat.le_refl _) ohas_N).trans (congrArg some ocell_N)) OX12.1 kM_X12_164 kI_X12_reads kS_X12_reads kN_X12 kC_X12_reads hd_X12_reads ⟨Nat.le_of_ble_eq_true rfl, Nat.le_of_ble_eq_true rfl⟩ rfl hl.1 (Nat.le_of_ble_eq_true rfl) (dk DX12_number_0 27 rfl) ⟨Nat.zero_le _, Nat.zero_le _⟩) (fun h1 H locs hp hH => ?_)
        rw [hp] at hH; clear hp
        refine lv_aload_n X.x X.b (dk DX12_number_0 28 rfl) rfl (lv_at hl 0 rfl) ?_
        refine og_getI OX12 X hq hH 11 (by decide) rfl kF_X12_144 (dk DX12_number_0 29 rfl) ?_
        refine lv_if_ne (tgt := 63) X.x X.b (dk DX12_number_0 30 rfl) (by decide) (fun c13 => ?_) (fun c13 => ?_)
        · replace hF := if_f hF c13
          refine lv_iload_n X.x X.b (dk DX12_number_0 33 rfl) rfl (lv_at hl 1 rfl) ?_
          cases sm hF
          exact mr_iret X hr hlk hH ⟨rfl, rfl⟩ (dk DX12_number_0 34 rfl)
        · replace hF := if_t hF c13
          refine lv_iload_n X.x X.b (dk DX12_number_0 31 rfl) rfl (lv_at hl 2 rfl) ?_
          refine lv_goto (tgt := 64) X.x X.b (dk DX12_number_0 32 rfl) (by decide) ?_
          cases sm hF
          exact mr_iret X hr hlk hH ⟨rfl, rfl⟩ (dk DX12_number_0 34 rfl)
    · replace hF := if_t hF c5
      refine lv_aload_n X.x X.b (dk DX12_number_0 17 rfl) rfl (lv_at hl 0 rfl) ?_
      refine lv_iconst (v := 3) X.x X.b (dk DX12_number_0 18 rfl) (by decide) ?_
      obtain ⟨x14, e15, hF⟩ := bd hF
      refine mr_cv0 hH ⟨rfl, rfl⟩ (mr_runV (As := [.int 3]) (rest := []) X hH (c_X12_blames hq e15) ((oset_at hq (Nat.le_refl _) ohas_N).trans (congrArg some ocell_N)) OX12.1 kM_X12_167 kI_X12_blames kS_X12_blames kN_X12 kC_X12_blames hd_X12_blames ⟨Nat.le_of_ble_eq_true rfl, Nat.le_of_ble_eq_true rfl⟩ rfl hl.1 (Nat.le_of_ble_eq_true rfl) (dk DX12_number_0 19 rfl) ⟨Nat.zero_le _, Nat.zero_le _⟩) (fun h1 H locs hp hH => ?_)
      rw [hp] at hH; clear hp
      refine lv_aload_n X.x X.b (dk DX12_number_0 20 rfl) rfl (lv_at hl 0 rfl) ?_
      refine og_getI OX12 X hq hH 10 (by decide) rfl kF_X12_141 (dk DX12_number_0 21 rfl) ?_
      refine lv_topi (fun v17 e18 => ?_)
      replace hF := bnd_e hF e18
      refine lv_istore_n (lv' := [(3, .int v17), (0, .ref (q 53)), (1, .int a0), (2, .int a1)]) X.x X.b (dk DX12_number_0 22 rfl) rfl hl (by decide) rfl (fun ls hl => ?_)
      replace hl : lv_has ls 4 [(0, .ref (q 53)), (1, .int a0), (3, .int v17)] := lv_sub hl [1, 2, 0] rfl
      refine lv_aload_n X.x X.b (dk DX12_number_0 23 rfl) rfl (lv_at hl 0 rfl) ?_
      refine og_getI OX12 X hq hH 11 (by decide) rfl kF_X12_144 (dk DX12_number_0 24 rfl) ?_
      refine lv_if_ne (tgt := 52) X.x X.b (dk DX12_number_0 25 rfl) (by decide) (fun c19 => ?_) (fun c19 => ?_)
      · replace hF := if_f hF c19
        refine lv_aload_n X.x X.b (dk DX12_number_0 28 rfl) rfl (lv_at hl 0 rfl) ?_
        refine og_getI OX12 X hq hH 11 (by decide) rfl kF_X12_144 (dk DX12_number_0 29 rfl) ?_
        refine lv_if_ne (tgt := 63) X.x X.b (dk DX12_number_0 30 rfl) (by decide) (fun c20 => ?_) (fun c20 => ?_)
        · replace hF := if_f hF c20
          refine lv_iload_n X.x X.b (dk DX12_number_0 33 rfl) rfl (lv_at hl 1 rfl) ?_
          cases sm hF
          exact mr_iret X hr hlk hH ⟨rfl, rfl⟩ (dk DX12_number_0 34 rfl)
        · replace hF := if_t hF c20
          refine lv_iload_n X.x X.b (dk DX12_number_0 31 rfl) rfl (lv_at hl 2 rfl) ?_
          refine lv_goto (tgt := 64) X.x X.b (dk DX12_number_0 32 rfl) (by decide) ?_
          cases sm hF
          exact mr_iret X hr hlk hH ⟨rfl, rfl⟩ (dk DX12_number_0 34 rfl)
      · replace hF := if_t hF c19
        refine lv_aload_n X.x X.b (dk DX12_number_0 26 rfl) rfl (lv_at hl 0 rfl) ?_
        obtain ⟨x21, e22, hF⟩ := bd hF
        refine mr_cv0 hH ⟨rfl, rfl⟩ (mr_runV (As := []) (rest := []) X hH (c_X12_reads hq e22) ((oset_at hq (Nat.le_refl _) ohas_N).trans (congrArg some ocell_N)) OX12.1 kM_X12_164 kI_X12_reads kS_X12_reads kN_X12 kC_X12_reads hd_X12_reads ⟨Nat.le_of_ble_eq_true rfl, Nat.le_of_ble_eq_true rfl⟩ rfl hl.1 (Nat.le_of_ble_eq_true rfl) (dk DX12_number_0 27 rfl) ⟨Nat.zero_le _, Nat.zero_le _⟩) (fun h1 H locs hp hH => ?_)
        rw [hp] at hH; clear hp
        refine lv_aload_n X.x X.b (dk DX12_number_0 28 rfl) rfl (lv_at hl 0 rfl) ?_
        refine og_getI OX12 X hq hH 11 (by decide) rfl kF_X12_144 (dk DX12_number_0 29 rfl) ?_
        refine lv_if_ne (tgt := 63) X.x X.b (dk DX12_number_0 30 rfl) (by decide) (fun c24 => ?_) (fun c24 => ?_)
        · replace hF := if_f hF c24
          refine lv_iload_n X.x X.b (dk DX12_number_0 33 rfl) rfl (lv_at hl 1 rfl) ?_
          cases sm hF
          exact mr_iret X hr hlk hH ⟨rfl, rfl⟩ (dk DX12_number_0 34 rfl)
        · replace hF := if_t hF c24
          refine lv_iload_n X.x X.b (dk DX12_number_0 31 rfl) rfl (lv_at hl 2 rfl) ?_
          refine lv_goto (tgt := 64) X.x X.b (dk DX12_number_0 32 rfl) (by decide) ?_
          cases sm hF
          exact mr_iret X hr hlk hH ⟨rfl, rfl⟩ (dk DX12_number_0 34 rfl)
  · replace hF := if_f hF c1
    refine lv_aload_n X.x X.b (dk DX12_number_0 4 rfl) rfl (lv_at hl 0 rfl) ?_
    refine lv_iconst (v := 2) X.x X.b (dk DX12_number_0 5 rfl) (by decide) ?_
    obtain ⟨x25, e26, hF⟩ := bd hF
    refine mr_cv0 hH ⟨rfl, rfl⟩ (mr_runV (As := [.int 2]) (rest := []) X hH (c_X12_blames hq e26) ((oset_at hq (Nat.le_refl _) ohas_N).trans (congrArg some ocell_N)) OX12.1 kM_X12_167 kI_X12_blames kS_X12_blames kN_X12 kC_X12_blames hd_X12_blames ⟨Nat.le_of_ble_eq_true rfl, Nat.le_of_ble_eq_true rfl⟩ rfl hl.1 (Nat.le_of_ble_eq_true rfl) (dk DX12_number_0 6 rfl) ⟨Nat.zero_le _, Nat.zero_le _⟩) (fun h1 H locs hp hH => ?_)
    rw [hp] at hH; clear hp
    refine lv_goto (tgt := 36) X.x X.b (dk DX12_number_0 7 rfl) (by decide) ?_
    refine lv_aload_n X.x X.b (dk DX12_number_0 20 rfl) rfl (lv_at hl 0 rfl) ?_
    refine og_getI OX12 X hq hH 10 (by decide) rfl kF_X12_141 (dk DX12_number_0 21 rfl) ?_
    refine lv_topi (fun v28 e29 => ?_)
    replace hF := bnd_e hF e29
    refine lv_istore_n (lv' := [(3, .int v28), (0, .ref (q 53)), (1, .int a0), (2, .int a1)]) X.x X.b (dk DX12_number_0 22 rfl) rfl hl (by decide) rfl (fun ls hl => ?_)
    replace hl : lv_has ls 4 [(0, .ref (q 53)), (1, .int a0), (3, .int v28)] := lv_sub hl [1, 2, 0] rfl
    refine lv_aload_n X.x X.b (dk DX12_number_0 23 rfl) rfl (lv_at hl 0 rfl) ?_
    refine og_getI OX12 X hq hH 11 (by decide) rfl kF_X12_144 (dk DX12_number_0 24 rfl) ?_
    refine lv_if_ne (tgt := 52) X.x X.b (dk DX12_number_0 25 rfl) (by decide) (fun c30 => ?_) (fun c30 => ?_)
    · replace hF := if_f hF c30
      refine lv_aload_n X.x X.b (dk DX12_number_0 28 rfl) rfl (lv_at hl 0 rfl) ?_
      refine og_getI OX12 X hq hH 11 (by decide) rfl kF_X12_144 (dk DX12_number_0 29 rfl) ?_
      refine lv_if_ne (tgt := 63) X.x X.b (dk DX12_number_0 30 rfl) (by decide) (fun c31 => ?_) (fun c31 => ?_)
      · replace hF := if_f hF c31
        refine lv_iload_n X.x X.b (dk DX12_number_0 33 rfl) rfl (lv_at hl 1 rfl) ?_
        cases sm hF
        exact mr_iret X hr hlk hH ⟨rfl, rfl⟩ (dk DX12_number_0 34 rfl)
      · replace hF := if_t hF c31
        refine lv_iload_n X.x X.b (dk DX12_number_0 31 rfl) rfl (lv_at hl 2 rfl) ?_
        refine lv_goto (tgt := 64) X.x X.b (dk DX12_number_0 32 rfl) (by decide) ?_
        cases sm hF
        exact mr_iret X hr hlk hH ⟨rfl, rfl⟩ (dk DX12_number_0 34 rfl)
    · replace hF := if_t hF c30
      refine lv_aload_n X.x X.b (dk DX12_number_0 26 rfl) rfl (lv_at hl 0 rfl) ?_
      obtain ⟨x32, e33, hF⟩ := bd hF
      refine mr_cv0 hH ⟨rfl, rfl⟩ (mr_runV (As := []) (rest := []) X hH (c_X12_reads hq e33) ((oset_at hq (Nat.le_refl _) ohas_N).trans (congrArg some ocell_N)) OX12.1 kM_X12_164 kI_X12_reads kS_X12_reads kN_X12 kC_X12_reads hd_X12_reads ⟨Nat.le_of_ble_eq_true rfl, Nat.le_of_ble_eq_true rfl⟩ rfl hl.1 (Nat.le_of_ble_eq_true rfl) (dk DX12_number_0 27 rfl) ⟨Nat.zero_le _, Nat.zero_le _⟩) (fun h1 H locs hp hH => ?_)
      rw [hp] at hH; clear hp
      refine lv_aload_n X.x X.b (dk DX12_number_0 28 rfl) rfl (lv_at hl 0 rfl) ?_
      refine og_getI OX12 X hq hH 11 (by decide) rfl kF_X12_144 (dk DX12_number_0 29 rfl) ?_
      refine lv_if_ne (tgt := 63) X.x X.b (dk DX12_number_0 30 rfl) (by decide) (fun c35 => ?_) (fun c35 => ?_)
      · replace hF := if_f hF c35
        refine lv_iload_n X.x X.b (dk DX12_number_0 33 rfl) rfl (lv_at hl 1 rfl) ?_
        cases sm hF
        exact mr_iret X hr hlk hH ⟨rfl, rfl⟩ (dk DX12_number_0 34 rfl)
      · replace hF := if_t hF c35
        refine lv_iload_n X.x X.b (dk DX12_number_0 31 rfl) rfl (lv_at hl 2 rfl) ?_
        refine lv_goto (tgt := 64) X.x X.b (dk DX12_number_0 32 rfl) (by decide) ?_
        cases sm hF
        exact mr_iret X hr hlk hH ⟨rfl, rfl⟩ (dk DX12_number_0 34 rfl)
-- X12_puts
abbrev rm_X12_puts : Room := { frames := 0, cells := 0, slots := 0, locals := 0 }
theorem hd_X12_puts : mHd yX12_puts 1 := ⟨by decide +kernel, by decide +kernel, by decide +kernel⟩
theorem DX12_puts_0 : ∀ t ∈ ([(0, .aload_n 0, 1), (1, .getfield 21, 3), (4, .aload_n 0, 1), (5, .getfield 175, 3), (8, .lload_n 1, 1), (9, .lastore, 1), (10, .aload_n 0, 1), (11, .dup, 1), (12, .getfield 175, 3), (15, .iconst 1, 1), (16, .iadd, 1), (17, .putfield 175, 3), (20, .return_, 1)] : List (Nat × Instr × Nat)), decode cX12_puts t.1 = .ok (t.2.1, t.2.2) := by decide +kernel
noncomputable def f_X12_puts (st : OS) (a0 : Int64) : Option (OS) := if inb (st.1 16) 64 = true then bnd (oB st 17 (vp_updL (st.2.2.2 17) (st.1 16 : Int32).toNatClampNeg a0)) (fun t2 => bnd (oI t2 16 ((t2.1 16) + 1)) (fun t4 => some t4)) else none
set_option maxHeartbeats 4000000 in
set_option maxRecDepth 100000 in
theorem c_X12_puts {l : Launch} {G : mG} {h : mM} {q : Nat → Nat} (hq : oinj LX12 q) {st : OS} {a0 : Int64} {x : OS} (hF : f_X12_puts st a0 = some x) : cQ l G yX12_puts cX12_puts 3 none rm_X12_puts [.ref (q 53), .long a0] (oset LX12 G q st h) (mQv G (fun h1 => h1 = oset LX12 G q x h)) := by
  refine mp_of (by decide +kernel) (Nat.le_of_ble_eq_true rfl) ?_
  intro p e s m below meth c X hr hlk hH hname ls hl
  dsimp only [f_X12_puts] at hF
  replace hl : lv_has ls 3 [(0, .ref (q 53)), (1, .long a0)] := hl
  refine lv_aload_n X.x X.b (dk DX12_puts_0 0 rfl) rfl (lv_at hl 0 rfl) ?_
  refine og_getR (t := 1) OX12 X hq hH 17 (by decide) rfl kF_X12_21 (dk DX12_puts_0 1 rfl) ?_
  refine lv_aload_n X.x X.b (dk DX12_puts_0 2 rfl) rfl (lv_at hl 0 rfl) ?_
  refine og_getI OX12 X hq hH 16 (by decide) rfl kF_X12_175 (dk DX12_puts_0 3 rfl) ?_
  refine lv_lload_n X.x X.b (dk DX12_puts_0 4 rfl) rfl (lv_at hl 1 rfl) ?_
  obtain ⟨c1, hF⟩ := gd hF
  refine og_last X hq hH 17 (by decide) rfl (inb_in c1) (dk DX12_puts_0 5 rfl) (fun H locs hH => ?_)
  obtain ⟨t2, e3⟩ : ∃ y, y = oB st 17 (vp_updL (st.2.2.2 17) (st.1 16 : Int32).toNatClampNeg a0) := ⟨_, rfl⟩
  rw [← e3] at hH
  replace hF := bnd_e hF e3
  refine lv_aload_n X.x X.b (dk DX12_puts_0 6 rfl) rfl (lv_at hl 0 rfl) ?_
  refine lv_dup X.x X.b (dk DX12_puts_0 7 rfl) rfl ?_
  refine og_getI OX12 X hq hH 16 (by decide) rfl kF_X12_175 (dk DX12_puts_0 8 rfl) ?_
  refine lv_iconst (v := 1) X.x X.b (dk DX12_puts_0 9 rfl) (by decide) ?_
  refine lv_iadd X.x X.b (dk DX12_puts_0 10 rfl) ?_
  refine og_putI OX12 X hq hH 16 (by decide) rfl kF_X12_175 rfl rfl rfl (dk DX12_puts_0 11 rfl) (fun H locs hH => ?_)
  obtain ⟨t4, e5⟩ : ∃ y, y = oI t2 16 ((t2.1 16) + 1) := ⟨_, rfl⟩
  rw [← e5] at hH
  replace hF := bnd_e hF e5
  cases sm hF
  exact mr_vret X hr hlk hH rfl (dk DX12_puts_0 12 rfl)
