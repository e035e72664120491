def LX0 : LY := (0, 11, fun k => match k with
  | 0 => (3, 64)
  | 1 => (3, 64)
  | 2 => (3, 64)
  | 3 => (1, 0)
  | 4 => (3, 65)
  | 5 => (3, 65)
  | 6 => (3, 65)
  | 7 => (3, 65)
  | 9 => (1, 0)
  | _ => (0, 0))
theorem OX0 : oOK LX0 RX0 TX0 tyX0 := ⟨rfl, hinX0, tyX0_ok, nmX0⟩
def LX1 : LY := (1, 4, fun k => match k with
  | 0 => (6, 0)
  | 1 => (6, 0)
  | _ => (0, 0))
theorem OX1 : oOK LX1 RX1 TX1 tyX1 := ⟨rfl, hinX1, tyX1_ok, nmX1⟩
def LX3 : LY := (2, 3, fun k => match k with
  | 0 => (2, 15)
  | 1 => (2, 40)
  | 2 => (2, 81)
  | _ => (0, 0))
theorem OX3 : oOK LX3 RX3 TX3 tyX3 := ⟨rfl, hinX3, tyX3_ok, nmX3⟩
def LX4 : LY := (3, 3, fun k => match k with
  | 0 => (2, 4096)
  | 1 => (3, 64)
  | 2 => (3, 16)
  | _ => (0, 0))
theorem OX4 : oOK LX4 RX4 TX4 tyX4 := ⟨rfl, hinX4, tyX4_ok, nmX4⟩
def LX5 : LY := (4, 10, fun k => match k with
  | 0 => (6, 0)
  | 1 => (4, 700)
  | _ => (0, 0))
theorem OX5 : oOK LX5 RX5 TX5 tyX5 := ⟨rfl, hinX5, tyX5_ok, nmX5⟩
def LX7 : LY := (5, 3, fun k => match k with
  | 2 => (3, 40)
  | _ => (0, 0))
theorem OX7 : oOK LX7 RX7 TX7 tyX7 := ⟨rfl, hinX7, tyX7_ok, nmX7⟩
def LX8 : LY := (6, 15, fun k => match k with
  | 2 => (3, 64)
  | 3 => (3, 64)
  | 4 => (3, 16)
  | 5 => (3, 16)
  | 6 => (2, 17)
  | 7 => (3, 1088)
  | 8 => (3, 1088)
  | 9 => (3, 64)
  | 10 => (3, 64)
  | 11 => (2, 16)
  | 12 => (2, 16)
  | 13 => (3, 16)
  | 14 => (2, 16)
  | _ => (0, 0))
theorem OX8 : oOK LX8 RX8 TX8 tyX8 := ⟨rfl, hinX8, tyX8_ok, nmX8⟩
def LX9 : LY := (7, 7, fun k => match k with
  | 0 => (3, 64)
  | 1 => (3, 64)
  | 2 => (3, 64)
  | 3 => (2, 128)
  | 4 => (2, 128)
  | 5 => (2, 128)
  | _ => (0, 0))
theorem OX9 : oOK LX9 RX9 TX9 tyX9 := ⟨rfl, hinX9, tyX9_ok, nmX9⟩
def LX10 : LY := (8, 5, fun k => match k with
  | 2 => (3, 64)
  | 3 => (3, 64)
  | 4 => (3, 64)
  | _ => (0, 0))
theorem OX10 : oOK LX10 RX10 TX10 tyX10 := ⟨rfl, hinX10, tyX10_ok, nmX10⟩
def LX11 : LY := (9, 10, fun k => match k with
  | 0 => (6, 0)
  | 1 => (6, 0)
  | 2 => (6, 0)
  | 3 => (6, 0)
  | 4 => (6, 0)
  | 5 => (6, 0)
  | 6 => (6, 0)
  | 7 => (6, 0)
  | 8 => (6, 0)
  | 9 => (6, 0)
  | _ => (0, 0))
theorem OX11 : oOK LX11 RX11 TX11 tyX11 := ⟨rfl, hinX11, tyX11_ok, nmX11⟩
-- X10_first
abbrev rm_X10_first : Room := { frames := 0, cells := 0, slots := 0, locals := 0 }
theorem hd_X10_first : mHd yX10_first 1 := ⟨by decide +kernel, by decide +kernel, by decide +kernel⟩
theorem DX10_first_0 : ∀ t ∈ ([(0, .iload_n 0, 1), (1, .ifCond .gt 5, 3), (4, .lconst 0, 1), (5, .lreturn, 1), (6, .iload_n 0, 1), (7, .bipush 64, 2), (9, .if_icmp .lt 9, 3), (12, .ldc2_w 21, 3), (15, .goto 8, 3), (18, .lconst 1, 1), (19, .iload_n 0, 1), (20, .lshl, 1), (21, .lconst 1, 1), (22, .lsub, 1), (23, .lreturn, 1)] : List (Nat × Instr × Nat)), decode cX10_first t.1 = .ok (t.2.1, t.2.2) := by decide +kernel
noncomputable def f_X10_first (a0 : Int32) : Option (Int64) := (if 0 < a0 then (if a0 < 64 then some ((((1 : Int64)) <<< ((a0 : Int32).toInt64 &&& 63)) - 1) else some ((-1))) else some 0)
set_option maxHeartbeats 4000000 in
set_option maxRecDepth 100000 in
theorem c_X10_first {l : Launch} {G : mG} {h : mM}  {a0 : Int32} {x : Int64} (hF : f_X10_first a0 = some x) : cQ l G yX10_first cX10_first 1 (some FieldType.long) rm_X10_first [.int a0] (h) (mQl G (fun r h1 => r = x ∧ h1 = h)) := by
  refine mp_of (by decide +kernel) (Nat.le_of_ble_eq_true rfl) ?_
  intro p e s m below meth c X hr hlk hH hname ls hl
  dsimp only [f_X10_first] at hF
  replace hl : lv_has ls 1 [(0, .int a0)] := hl
  refine lv_iload_n X.x X.b (dk DX10_first_0 0 rfl) rfl (lv_at hl 0 rfl) ?_
  refine lv_if_gt (tgt := 6) X.x X.b (dk DX10_first_0 1 rfl) (by decide) (fun c1 => ?_) (fun c1 => ?_)
  · replace hF := if_t hF c1
    refine lv_iload_n X.x X.b (dk DX10_first_0 4 rfl) rfl (lv_at hl 0 rfl) ?_
    refine lv_bipush (v := 64) X.x X.b (dk DX10_first_0 5 rfl) (by decide) ?_
    refine lv_icmp_lt (tgt := 18) X.x X.b (dk DX10_first_0 6 rfl) (by decide) (fun c2 => ?_) (fun c2 => ?_)
    · replace hF := if_t hF c2
      refine lv_lconst (v := 1) X.x X.b (dk DX10_first_0 9 rfl) (by decide) ?_
      refine lv_iload_n X.x X.b (dk DX10_first_0 10 rfl) rfl (lv_at hl 0 rfl) ?_
      refine lv_lshl X.x X.b (dk DX10_first_0 11 rfl) rfl ?_
      refine lv_lconst (v := 1) X.x X.b (dk DX10_first_0 12 rfl) (by decide) ?_
      refine lv_lsub X.x X.b (dk DX10_first_0 13 rfl) ?_
      cases sm hF
      exact mr_lret X hr hlk hH ⟨rfl, rfl⟩ (dk DX10_first_0 14 rfl)
    · replace hF := if_f hF c2
      refine lv_ldc2 (v := (-1)) X.x X.b X.ow (X.ts _ kK_X10_21) (dk DX10_first_0 7 rfl) ?_
      refine lv_goto (tgt := 23) X.x X.b (dk DX10_first_0 8 rfl) (by decide) ?_
      cases sm hF
      exact mr_lret X hr hlk hH ⟨rfl, rfl⟩ (dk DX10_first_0 14 rfl)
  · replace hF := if_f hF c1
    refine lv_lconst (v := 0) X.x X.b (dk DX10_first_0 2 rfl) (by decide) ?_
    cases sm hF
    exact mr_lret X hr hlk hH ⟨rfl, rfl⟩ (dk DX10_first_0 3 rfl)
-- X10_setAt
abbrev rm_X10_setAt : Room := { frames := 0, cells := 0, slots := 0, locals := 0 }
theorem hd_X10_setAt : mHd yX10_setAt 1 := ⟨by decide +kernel, by decide +kernel, by decide +kernel⟩
theorem DX10_setAt_0 : ∀ t ∈ ([(0, .iload_n 1, 1), (1, .ifCond .lt 26, 3), (4, .iload_n 1, 1), (5, .aload_n 0, 1), (6, .getfield 37, 3), (9, .if_icmp .ge 18, 3), (12, .iload_n 1, 1), (13, .bipush 64, 2), (15, .if_icmp .ge 12, 3), (18, .aload_n 0, 1), (19, .getfield 11, 3), (22, .iload_n 1, 1), (23, .laload, 1), (24, .goto 4, 3), (27, .lconst 0, 1), (28, .lreturn, 1)] : List (Nat × Instr × Nat)), decode cX10_setAt t.1 = .ok (t.2.1, t.2.2) := by decide +kernel
noncomputable def f_X10_setAt (st : OS) (a0 : Int32) : Option (Int64) := (if a0 < 0 then some 0 else (if (st.1 1) ≤ a0 then some 0 else (if 64 ≤ a0 then some 0 else if inb a0 64 = true then some (st.2.2.2 2 (a0 : Int32).toNatClampNeg) else none)))
set_option maxHeartbeats 4000000 in
set_option maxRecDepth 100000 in
theorem c_X10_setAt {l : Launch} {G : mG} {h : mM} {q : Nat → Nat} (hq : oinj LX10 q) {st : OS} {a0 : Int32} {x : Int64} (hF : f_X10_setAt st a0 = some x) : cQ l G yX10_setAt cX10_setAt 2 (some FieldType.long) rm_X10_setAt [.ref (q 5), .int a0] (oset LX10 G q st h) (mQl G (fun r h1 => r = x ∧ h1 = oset LX10 G q st h)) := by
  refine mp_of (by decide +kernel) (Nat.le_of_ble_eq_true rfl) ?_
  intro p e s m below meth c X hr hlk hH hname ls hl
  dsimp only [f_X10_setAt] at hF
  replace hl : lv_has ls 2 [(0, .ref (q 5)), (1, .int a0)] := hl
  refine lv_iload_n X.x X.b (dk DX10_setAt_0 0 rfl) rfl (lv_at hl 1 rfl) ?_
  refine lv_if_lt (tgt := 27) X.x X.b (dk DX10_setAt_0 1 rfl) (by decide) (fun c1 => ?_) (fun c1 => ?_)
  · replace hF := if_t hF c1
    refine lv_lconst (v := 0) X.x X.b (dk DX10_setAt_0 14 rfl) (by decide) ?_
    cases sm hF
    exact mr_lret X hr hlk hH ⟨rfl, rfl⟩ (dk DX10_setAt_0 15 rfl)
  · replace hF := if_f hF c1
    refine lv_iload_n X.x X.b (dk DX10_setAt_0 2 rfl) rfl (lv_at hl 1 rfl) ?_
    refine lv_aload_n X.x X.b (dk DX10_setAt_0 3 rfl) rfl (lv_at hl 0 rfl) ?_
    refine og_getI OX10 X hq hH 1 (by decide) rfl kF_X10_37 (dk DX10_setAt_0 4 rfl) ?_
    refine lv_icmp_ge (tgt := 27) X.x X.b (dk DX10_setAt_0 5 rfl) (by decide) (fun c2 => ?_) (fun c2 => ?_)
    · replace hF := if_t hF c2
      refine lv_lconst (v := 0) X.x X.b (dk DX10_setAt_0 14 rfl) (by decide) ?_
      cases sm hF
      exact mr_lret X hr hlk hH ⟨rfl, rfl⟩ (dk DX10_setAt_0 15 rfl)
    · replace hF := if_f hF c2
      refine lv_iload_n X.x X.b (dk DX10_setAt_0 6 rfl) rfl (lv_at hl 1 rfl) ?_
      refine lv_bipush (v := 64) X.x X.b (dk DX10_setAt_0 7 rfl) (by decide) ?_
      refine lv_icmp_ge (tgt := 27) X.x X.b (dk DX10_setAt_0 8 rfl) (by decide) (fun c3 => ?_) (fun c3 => ?_)
      · replace hF := if_t hF c3
        refine lv_lconst (v := 0) X.x X.b (dk DX10_setAt_0 14 rfl) (by decide) ?_
        cases sm hF
        exact mr_lret X hr hlk hH ⟨rfl, rfl⟩ (dk DX10_setAt_0 15 rfl)
      · replace hF := if_f hF c3
        refine lv_aload_n X.x X.b (dk DX10_setAt_0 9 rfl) rfl (lv_at hl 0 rfl) ?_
        refine og_getR (t := 1) OX10 X hq hH 2 (by decide) rfl kF_X10_11 (dk DX10_setAt_0 10 rfl) ?_
        refine lv_iload_n X.x X.b (dk DX10_setAt_0 11 rfl) rfl (lv_at hl 1 rfl) ?_
        obtain ⟨c4, hF⟩ := gd hF
        refine og_lald X hq hH 2 (by decide) rfl (inb_in c4) (dk DX10_setAt_0 12 rfl) ?_
        refine lv_goto (tgt := 28) X.x X.b (dk DX10_setAt_0 13 rfl) (by decide) ?_
        cases sm hF
        exact mr_lret X hr hlk hH ⟨rfl, rfl⟩ (dk DX10_setAt_0 15 rfl)
-- X10_throughAt
abbrev rm_X10_throughAt : Room := { frames := 0, cells := 0, slots := 0, locals := 0 }
theorem hd_X10_throughAt : mHd yX10_throughAt 1 := ⟨by decide +kernel, by decide +kernel, by decide +kernel⟩
theorem DX10_throughAt_0 : ∀ t ∈ ([(0, .iload_n 1, 1), (1, .ifCond .lt 26, 3), (4, .iload_n 1, 1), (5, .aload_n 0, 1), (6, .getfield 29, 3), (9, .if_icmp .ge 18, 3), (12, .iload_n 1, 1), (13, .bipush 64, 2), (15, .if_icmp .ge 12, 3), (18, .aload_n 0, 1), (19, .getfield 18, 3), (22, .iload_n 1, 1), (23, .laload, 1), (24, .goto 4, 3), (27, .lconst 0, 1), (28, .lreturn, 1)] : List (Nat × Instr × Nat)), decode cX10_throughAt t.1 = .ok (t.2.1, t.2.2) := by decide +kernel
noncomputable def f_X10_throughAt (st : OS) (a0 : Int32) : Option (Int64) := (if a0 < 0 then some 0 else (if (st.1 0) ≤ a0 then some 0 else (if 64 ≤ a0 then some 0 else if inb a0 64 = true then some (st.2.2.2 4 (a0 : Int32).toNatClampNeg) else none)))
set_option maxHeartbeats 4000000 in
set_option maxRecDepth 100000 in
theorem c_X10_throughAt {l : Launch} {G : mG} {h : mM} {q : Nat → Nat} (hq : oinj LX10 q) {st : OS} {a0 : Int32} {x : Int64} (hF : f_X10_throughAt st a0 = some x) : cQ l G yX10_throughAt cX10_throughAt 2 (some FieldType.long) rm_X10_throughAt [.ref (q 5), .int a0] (oset LX10 G q st h) (mQl G (fun r h1 => r = x ∧ h1 = oset LX10 G q st h)) := by
  refine mp_of (by decide +kernel) (Nat.le_of_ble_eq_true rfl) ?_
  intro p e s m below meth c X hr hlk hH hname ls hl
  dsimp only [f_X10_throughAt] at hF
  replace hl : lv_has ls 2 [(0, .ref (q 5)), (1, .int a0)] := hl
  refine lv_iload_n X.x X.b (dk DX10_throughAt_0 0 rfl) rfl (lv_at hl 1 rfl) ?_
  refine lv_if_lt (tgt := 27) X.x X.b (dk DX10_throughAt_0 1 rfl) (by decide) (fun c1 => ?_) (fun c1 => ?_)
  · replace hF := if_t hF c1
    refine lv_lconst (v := 0) X.x X.b (dk DX10_throughAt_0 14 rfl) (by decide) ?_
    cases sm hF
    exact mr_lret X hr hlk hH ⟨rfl, rfl⟩ (dk DX10_throughAt_0 15 rfl)
  · replace hF := if_f hF c1
    refine lv_iload_n X.x X.b (dk DX10_throughAt_0 2 rfl) rfl (lv_at hl 1 rfl) ?_
    refine lv_aload_n X.x X.b (dk DX10_throughAt_0 3 rfl) rfl (lv_at hl 0 rfl) ?_
    refine og_getI OX10 X hq hH 0 (by decide) rfl kF_X10_29 (dk DX10_throughAt_0 4 rfl) ?_
    refine lv_icmp_ge (tgt := 27) X.x X.b (dk DX10_throughAt_0 5 rfl) (by decide) (fun c2 => ?_) (fun c2 => ?_)
    · replace hF := if_t hF c2
      refine lv_lconst (v := 0) X.x X.b (dk DX10_throughAt_0 14 rfl) (by decide) ?_
      cases sm hF
      exact mr_lret X hr hlk hH ⟨rfl, rfl⟩ (dk DX10_throughAt_0 15 rfl)
    · replace hF := if_f hF c2
      refine lv_iload_n X.x X.b (dk DX10_throughAt_0 6 rfl) rfl (lv_at hl 1 rfl) ?_
      refine lv_bipush (v := 64) X.x X.b (dk DX10_throughAt_0 7 rfl) (by decide) ?_
      refine lv_icmp_ge (tgt := 27) X.x X.b (dk DX10_throughAt_0 8 rfl) (by decide) (fun c3 => ?_) (fun c3 => ?_)
      · replace hF := if_t hF c3
        refine lv_lconst (v := 0) X.x X.b (dk DX10_throughAt_0 14 rfl) (by decide) ?_
        cases sm hF
        exact mr_lret X hr hlk hH ⟨rfl, rfl⟩ (dk DX10_throughAt_0 15 rfl)
      · replace hF := if_f hF c3
        refine lv_aload_n X.x X.b (dk DX10_throughAt_0 9 rfl) rfl (lv_at hl 0 rfl) ?_
        refine og_getR (t := 1) OX10 X hq hH 4 (by decide) rfl kF_X10_18 (dk DX10_throughAt_0 10 rfl) ?_
        refine lv_iload_n X.x X.b (dk DX10_throughAt_0 11 rfl) rfl (lv_at hl 1 rfl) ?_
        obtain ⟨c4, hF⟩ := gd hF
        refine og_lald X hq hH 4 (by decide) rfl (inb_in c4) (dk DX10_throughAt_0 12 rfl) ?_
        refine lv_goto (tgt := 28) X.x X.b (dk DX10_throughAt_0 13 rfl) (by decide) ?_
        cases sm hF
        exact mr_lret X hr hlk hH ⟨rfl, rfl⟩ (dk DX10_throughAt_0 15 rfl)
-- X10_has
abbrev rm_X10_has : Room := { frames := 0, cells := 0, slots := 0, locals := 0 }
theorem hd_X10_has : mHd yX10_has 2 := ⟨by decide +kernel, by decide +kernel, by decide +kernel⟩
theorem DX10_has_0 : ∀ t ∈ ([(0, .lload_n 0, 1), (1, .iload_n 2, 1), (2, .lushr, 1), (3, .lconst 1, 1), (4, .land, 1), (5, .lconst 0, 1), (6, .lcmp, 1), (7, .ifCond .eq 7, 3), (10, .iconst 1, 1), (11, .goto 4, 3), (14, .iconst 0, 1), (15, .ireturn, 1)] : List (Nat × Instr × Nat)), decode cX10_has t.1 = .ok (t.2.1, t.2.2) := by decide +kernel
noncomputable def f_X10_has (a0 : Int64) (a1 : Int32) : Option (Int32) := (if (lg_cmp ((((a0 : Int64).toUInt64 >>> ((a1 : Int32).toInt64.toUInt64 &&& Int64.toUInt64 63)).toInt64) &&& 1) 0) = 0 then some 0 else some 1)
set_option maxHeartbeats 4000000 in
set_option maxRecDepth 100000 in
theorem c_X10_has {l : Launch} {G : mG} {h : mM}  {a0 : Int64} {a1 : Int32} {x : Int32} (hF : f_X10_has a0 a1 = some x) : cQ l G yX10_has cX10_has 3 (some FieldType.boolean) rm_X10_has [.long a0, .int a1] (h) (mQi G (fun r h1 => r = x ∧ h1 = h)) := by
  refine mp_of (by decide +kernel) (Nat.le_of_ble_eq_true rfl) ?_
  intro p e s m below meth c X hr hlk hH hname ls hl
  dsimp only [f_X10_has] at hF
  replace hl : lv_has ls 3 [(0, .long a0), (2, .int a1)] := hl
  refine lv_lload_n X.x X.b (dk DX10_has_0 0 rfl) rfl (lv_at hl 0 rfl) ?_
  refine lv_iload_n X.x X.b (dk DX10_has_0 1 rfl) rfl (lv_at hl 1 rfl) ?_
  refine lv_lushr X.x X.b (dk DX10_has_0 2 rfl) rfl ?_
  refine lv_lconst (v := 1) X.x X.b (dk DX10_has_0 3 rfl) (by decide) ?_
  refine lv_land X.x X.b (dk DX10_has_0 4 rfl) ?_
  refine lv_lconst (v := 0) X.x X.b (dk DX10_has_0 5 rfl) (by decide) ?_
  refine W.lcmp X.x X.b (dk DX10_has_0 6 rfl) ?_
  refine lv_if_eq (tgt := 14) X.x X.b (dk DX10_has_0 7 rfl) (by decide) (fun c1 => ?_) (fun c1 => ?_)
  · replace hF := if_t hF c1
    refine lv_iconst (v := 0) X.x X.b (dk DX10_has_0 10 rfl) (by decide) ?_
    cases sm hF
    exact mr_zret X hr hlk hH rfl ⟨rfl, rfl⟩ (dk DX10_has_0 11 rfl)
  · replace hF := if_f hF c1
    refine lv_iconst (v := 1) X.x X.b (dk DX10_has_0 8 rfl) (by decide) ?_
    refine lv_goto (tgt := 15) X.x X.b (dk DX10_has_0 9 rfl) (by decide) ?_
    cases sm hF
    exact mr_zret X hr hlk hH rfl ⟨rfl, rfl⟩ (dk DX10_has_0 11 rfl)
-- X0_bar
abbrev rm_X0_bar : Room := { frames := 1, cells := 0, slots := 0, locals := 22 }
theorem hd_X0_bar : mHd yX0_bar 0 := ⟨by decide +kernel, by decide +kernel, by decide +kernel⟩
theorem DX0_bar_0 : ∀ t ∈ ([(0, .iconst 0, 1), (1, .istore_n 1, 1), (2, .iload_n 1, 1), (3, .bipush 64, 2), (5, .if_icmp .ge 58, 3), (8, .aload_n 0, 1), (9, .getfield 20, 3), (12, .iload_n 1, 1), (13, .lconst 0, 1), (14, .lastore, 1), (15, .iconst 0, 1), (16, .istore_n 2, 1), (17, .iload_n 2, 1), (18, .bipush 64, 2), (20, .if_icmp .ge 37, 3), (23, .aload_n 0, 1), (24, .getfield 17, 3), (27, .iload_n 1, 1), (28, .laload, 1), (29, .iload_n 2, 1), (30, .invokestatic 60, 3), (33, .ifCond .eq 18, 3), (36, .aload_n 0, 1), (37, .getfield 20, 3), (40, .iload_n 1, 1), (41, .dup2, 1), (42, .laload, 1), (43, .aload_n 0, 1), (44, .getfield 11, 3), (47, .iload_n 2, 1), (48, .laload, 1), (49, .lor, 1), (50, .lastore, 1), (51, .iinc 2 1, 3), (54, .goto (-37), 3), (57, .iinc 1 1, 3), (60, .goto (-58), 3), (63, .return_, 1)] : List (Nat × Instr × Nat)), decode cX0_bar t.1 = .ok (t.2.1, t.2.2) := by decide +kernel
noncomputable def f_X0_bar_17 (b1 : Int32) : (OS × Int32) → Option ((OS × Int32) ⊕ (OS)) := fun z => match z with | (s_t, b2) => (if 64 ≤ b2 then some (.inr s_t) else if inb b1 64 = true then (f_X10_has (s_t.2.2.2 1 (b1 : Int32).toNatClampNeg) b2).bind (fun x7 => (if x7 = 0 then bnd (b2 + 1 : Int32) (fun v11 => some (.inl ((s_t, v11)))) else if inb b2 64 = true then bnd (oB s_t 2 (vp_updL (s_t.2.2.2 2) (b1 : Int32).toNatClampNeg ((s_t.2.2.2 2 (b1 : Int32).toNatClampNeg) ||| (s_t.2.2.2 0 (b2 : Int32).toNatClampNeg)))) (fun t14 => bnd (b2 + 1 : Int32) (fun v16 => some (.inl ((t14, v16))))) else none)) else none)
noncomputable def f_X0_bar_2 : (OS × Int32) → Option ((OS × Int32) ⊕ (OS)) := fun z => match z with | (s_t, b1) => (if 64 ≤ b1 then some (.inr s_t) else if inb b1 64 = true then bnd (oB s_t 2 (vp_updL (s_t.2.2.2 2) (b1 : Int32).toNatClampNeg 0)) (fun t3 => (lpv (f_X0_bar_17 b1) ((t3, 0))).bind (fun x18 => bnd (b1 + 1 : Int32) (fun v21 => some (.inl ((x18, v21)))))) else none)
noncomputable def f_X0_bar (st : OS) : Option (OS) := (lpv (f_X0_bar_2) ((st, 0))).bind (fun x23 => some x23)
set_option maxHeartbeats 4000000 in
set_option maxRecDepth 100000 in
theorem w_X0_bar_17 {p : Program} {l : Launch} {e : Env} {s : State} {m : MethodId} {args : Array Value} {below : List Frame} {meth : Method} {c : Code} {Q : State → Prop} {G : mG} {h : mM} {q : Nat → Nat} (hq : oinj LX0 q) (X : mX G p m c cX0_bar 3 s args RX0) (b1 : Int32) : ∀ (z : OS × Int32) (r : OS), lpv (f_X0_bar_17 b1) z = some r → ∀ (H : Heap) (locs : List Loc) (ls : Array Slot), mH G (oset LX0 G q z.1 h) s.heap H locs → lv_has ls 3 [(0, .ref (q 11)), (1, .int b1), (2, .int z.2)] → (∀ (H : Heap) (locs : List Loc) (ls : Array Slot), mH G (oset LX0 G q r h) s.heap H locs → lv_has ls 3 [(0, .ref (q 11)), (1, .int b1)] → W p l e rm_X0_bar s m args below meth c H locs 0 0 Q (F0 m 57 ls [])) → W p l e rm_X0_bar s m args below meth c H locs 0 0 Q (F0 m 17 ls []) := by
  refine lpv_rec ?_
  intro z r x hF hx H locs ls hH hl K0
  obtain ⟨s_t, b2⟩ := z
  dsimp only [f_X0_bar_17] at hF
  try dsimp only at hH hl
  refine lv_iload_n X.x X.b (dk DX0_bar_0 12 rfl) rfl (lv_at hl 2 rfl) ?_
  refine lv_bipush (v := 64) X.x X.b (dk DX0_bar_0 13 rfl) (by decide) ?_
  refine lv_icmp_ge (tgt := 57) X.x X.b (dk DX0_bar_0 14 rfl) (by decide) (fun c5 => ?_) (fun c5 => ?_)
  · replace hF := if_t hF c5
    have hr9 := lp_r hF hx
    subst hr9
    exact K0 _ _ _ hH (lv_sub hl [0, 1] rfl)
  · replace hF := if_f hF c5
    refine lv_aload_n X.x X.b (dk DX0_bar_0 15 rfl) rfl (lv_at hl 0 rfl) ?_
    refine og_getR (t := 1) OX0 X hq hH 1 (by decide) rfl kF_X0_17 (dk DX0_bar_0 16 rfl) ?_
    refine lv_iload_n X.x X.b (dk DX0_bar_0 17 rfl) rfl (lv_at hl 1 rfl) ?_
    obtain ⟨c6, hF⟩ := gd hF
    refine og_lald X hq hH 1 (by decide) rfl (inb_in c6) (dk DX0_bar_0 18 rfl) ?_
    refine lv_iload_n X.x X.b (dk DX0_bar_0 19 rfl) rfl (lv_at hl 2 rfl) ?_
    obtain ⟨x7, e8, hF⟩ := bd hF
    refine mr_ci0 hH ⟨rfl, rfl⟩ (mr_runS (As := [.long (s_t.2.2.2 1 (b1 : Int32).toNatClampNeg), .int b2]) (rest := []) X hH (c_X10_has e8) kM_X0_60 kT_X10_has kN_X10 kC_X10_has hd_X10_has ⟨Nat.le_of_ble_eq_true rfl, Nat.le_of_ble_eq_true rfl⟩ rfl hl.1 (Nat.le_of_ble_eq_true rfl) (dk DX0_bar_0 20 rfl) ⟨Nat.zero_le _, Nat.zero_le _⟩) (fun r h1 H locs hp hH => ?_)
    obtain ⟨hr1, hr2⟩ := hp; rw [hr1]; rw [hr2] at hH; clear hr1 hr2
    refine lv_if_eq (tgt := 51) X.x X.b (dk DX0_bar_0 21 rfl) (by decide) (fun c10 => ?_) (fun c10 => ?_)
    · replace hF := if_t hF c10
      obtain ⟨v11, e12⟩ : ∃ y : Int32, y = b2 + 1 := ⟨_, rfl⟩
      replace hF := bnd_e hF e12
      refine lv_iinc (v := v11) (lv' := [(2, .int v11), (0, .ref (q 11)), (1, .int b1)]) X.x X.b (dk DX0_bar_0 33 rfl) hl (k := 2) rfl (by rw [e12]; rfl) (by decide) rfl (fun ls hl => ?_)
      replace hl : lv_has ls 3 [(0, .ref (q 11)), (1, .int b1), (2, .int v11)] := lv_sub hl [1, 2, 0] rfl
      refine lv_goto (tgt := 17) X.x X.b (dk DX0_bar_0 34 rfl) (by decide) ?_
      exact (lp_l hF hx) _ _ _ hH (lv_sub hl [0, 1, 2] rfl) K0
    · replace hF := if_f hF c10
      refine lv_aload_n X.x X.b (dk DX0_bar_0 22 rfl) rfl (lv_at hl 0 rfl) ?_
      refine og_getR (t := 1) OX0 X hq hH 2 (by decide) rfl kF_X0_20 (dk DX0_bar_0 23 rfl) ?_
      refine lv_iload_n X.x X.b (dk DX0_bar_0 24 rfl) rfl (lv_at hl 1 rfl) ?_
      refine lv_dup2_11 X.x X.b (dk DX0_bar_0 25 rfl) rfl rfl ?_
      refine og_lald X hq hH 2 (by decide) rfl (inb_in c6) (dk DX0_bar_0 26 rfl) ?_
      refine lv_aload_n X.x X.b (dk DX0_bar_0 27 rfl) rfl (lv_at hl 0 rfl) ?_
      refine og_getR (t := 1) OX0 X hq hH 0 (by decide) rfl kF_X0_11 (dk DX0_bar_0 28 rfl) ?_
      refine lv_iload_n X.x X.b (dk DX0_bar_0 29 rfl) rfl (lv_at hl 2 rfl) ?_
      obtain ⟨c13, hF⟩ := gd hF
      refine og_lald X hq hH 0 (by decide) rfl (inb_in c13) (dk DX0_bar_0 30 rfl) ?_
      refine lv_lor X.x X.b (dk DX0_bar_0 31 rfl) ?_
      refine og_last X hq hH 2 (by decide) rfl (inb_in c6) (dk DX0_bar_0 32 rfl) (fun H locs hH => ?_)
      obtain ⟨t14, e15⟩ : ∃ y, y = oB s_t 2 (vp_updL (s_t.2.2.2 2) (b1 : Int32).toNatClampNeg ((s_t.2.2.2 2 (b1 : Int32).toNatClampNeg) ||| (s_t.2.2.2 0 (b2 : Int32).toNatClampNeg))) := ⟨_, rfl⟩
      rw [← e15] at hH
      replace hF := bnd_e hF e15
      obtain ⟨v16, e17⟩ : ∃ y : Int32, y = b2 + 1 := ⟨_, rfl⟩
      replace hF := bnd_e hF e17
      refine lv_iinc (v := v16) (lv' := [(2, .int v16), (0, .ref (q 11)), (1, .int b1)]) X.x X.b (dk DX0_bar_0 33 rfl) hl (k := 2) rfl (by rw [e17]; rfl) (by decide) rfl (fun ls hl => ?_)
      replace hl : lv_has ls 3 [(0, .ref (q 11)), (1, .int b1), (2, .int v16)] := lv_sub hl [1, 2, 0] rfl
      refine lv_goto (tgt := 17) X.x X.b (dk DX0_bar_0 34 rfl) (by decide) ?_
      exact (lp_l hF hx) _ _ _ hH (lv_sub hl [0, 1, 2] rfl) K0
set_option maxHeartbeats 4000000 in
set_option maxRecDepth 100000 in
theorem w_X0_bar_2 {p : Program} {l : Launch} {e : Env} {s : State} {m : MethodId} {args : Array Value} {below : List Frame} {meth : Method} {c : Code} {Q : State → Prop} {G : mG} {h : mM} {q : Nat → Nat} (hq : oinj LX0 q) (X : mX G p m c cX0_bar 3 s args RX0) : ∀ (z : OS × Int32) (r : OS), lpv (f_X0_bar_2) z = some r → ∀ (H : Heap) (locs : List Loc) (ls : Array Slot), mH G (oset LX0 G q z.1 h) s.heap H locs → lv_has ls 3 [(0, .ref (q 11)), (1, .int z.2)] → (∀ (H : Heap) (locs : List Loc) (ls : Array Slot), mH G (oset LX0 G q r h) s.heap H locs → lv_has ls 3 [] → W p l e rm_X0_bar s m args below meth c H locs 0 0 Q (F0 m 63 ls [])) → W p l e rm_X0_bar s m args below meth c H locs 0 0 Q (F0 m 2 ls []) := by
  refine lpv_rec ?_
  intro z r x hF hx H locs ls hH hl K0
  obtain ⟨s_t, b1⟩ := z
  dsimp only [f_X0_bar_2] at hF
  try dsimp only at hH hl
  refine lv_iload_n X.x X.b (dk DX0_bar_0 2 rfl) rfl (lv_at hl 1 rfl) ?_
  refine lv_bipush (v := 64) X.x X.b (dk DX0_bar_0 3 rfl) (by decide) ?_
  refine lv_icmp_ge (tgt := 63) X.x X.b (dk DX0_bar_0 4 rfl) (by decide) (fun c1 => ?_) (fun c1 => ?_)
  · replace hF := if_t hF c1
    have hr9 := lp_r hF hx
    subst hr9
    exact K0 _ _ _ hH (lv_sub hl [] rfl)
  · replace hF := if_f hF c1
    refine lv_aload_n X.x X.b (dk DX0_bar_0 5 rfl) rfl (lv_at hl 0 rfl) ?_
    refine og_getR (t := 1) OX0 X hq hH 2 (by decide) rfl kF_X0_20 (dk DX0_bar_0 6 rfl) ?_
    refine lv_iload_n X.x X.b (dk DX0_bar_0 7 rfl) rfl (lv_at hl 1 rfl) ?_
    refine lv_lconst (v := 0) X.x X.b (dk DX0_bar_0 8 rfl) (by decide) ?_
    obtain ⟨c2, hF⟩ := gd hF
    refine og_last X hq hH 2 (by decide) rfl (inb_in c2) (dk DX0_bar_0 9 rfl) (fun H locs hH => ?_)
    obtain ⟨t3, e4⟩ : ∃ y, y = oB s_t 2 (vp_updL (s_t.2.2.2 2) (b1 : Int32).toNatClampNeg 0) := ⟨_, rfl⟩
    rw [← e4] at hH
    replace hF := bnd_e hF e4
    refine lv_iconst (v := 0) X.x X.b (dk DX0_bar_0 10 rfl) (by decide) ?_
    refine lv_istore_n (lv' := [(2, .int 0), (0, .ref (q 11)), (1, .int b1)]) X.x X.b (dk DX0_bar_0 11 rfl) rfl hl (by decide) rfl (fun ls hl => ?_)
    replace hl : lv_has ls 3 [(0, .ref (q 11)), (1, .int b1), (2, .int 0)] := lv_sub hl [1, 2, 0] rfl
    obtain ⟨x18, e19, hF⟩ := bd hF
    replace hl : lv_has ls 3 [(0, .ref (q 11)), (1, .int b1), (2, .int 0)] := lv_sub hl [0, 1, 2] rfl
    refine w_X0_bar_17 hq X b1 _ _ e19 _ _ _ hH hl (fun H locs ls hH hl => ?_)
    obtain ⟨v21, e22⟩ : ∃ y : Int32, y = b1 + 1 := ⟨_, rfl⟩
    replace hF := bnd_e hF e22
    refine lv_iinc (v := v21) (lv' := [(1, .int v21), (0, .ref (q 11))]) X.x X.b (dk DX0_bar_0 35 rfl) hl (k := 1) rfl (by rw [e22]; rfl) (by decide) rfl (fun ls hl => ?_)
    replace hl : lv_has ls 3 [(0, .ref (q 11)), (1, .int v21)] := lv_sub hl [1, 0] rfl
    refine lv_goto (tgt := 2) X.x X.b (dk DX0_bar_0 36 rfl) (by decide) ?_
    exact (lp_l hF hx) _ _ _ hH (lv_sub hl [0, 1] rfl) K0
set_option maxHeartbeats 4000000 in
set_option maxRecDepth 100000 in
theorem c_X0_bar {l : Launch} {G : mG} {h : mM} {q : Nat → Nat} (hq : oinj LX0 q) {st : OS} {x : OS} (hF : f_X0_bar st = some x) : cQ l G yX0_bar cX0_bar 3 none rm_X0_bar [.ref (q 11)] (oset LX0 G q st h) (mQv G (fun h1 => h1 = oset LX0 G q x h)) := by
  refine mp_of (by decide +kernel) (Nat.le_of_ble_eq_true rfl) ?_
  intro p e s m below meth c X hr hlk hH hname ls hl
  dsimp only [f_X0_bar] at hF
  replace hl : lv_has ls 3 [(0, .ref (q 11))] := hl
  refine lv_iconst (v := 0) X.x X.b (dk DX0_bar_0 0 rfl) (by decide) ?_
  refine lv_istore_n (lv' := [(1, .int 0), (0, .ref (q 11))]) X.x X.b (dk DX0_bar_0 1 rfl) rfl hl (by decide) rfl (fun ls hl => ?_)
  replace hl : lv_has ls 3 [(0, .ref (q 11)), (1, .int 0)] := lv_sub hl [1, 0] rfl
  obtain ⟨x23, e24, hF⟩ := bd hF
  replace hl : lv_has ls 3 [(0, .ref (q 11)), (1, .int 0)] := lv_sub hl [0, 1] rfl
  refine w_X0_bar_2 hq X _ _ e24 _ _ _ hH hl (fun H locs ls hH hl => ?_)
  cases sm hF
  exact mr_vret X hr hlk hH rfl (dk DX0_bar_0 37 rfl)
-- X0_takePoints
abbrev rm_X0_takePoints : Room := { frames := 2, cells := 0, slots := 0, locals := 44 }
theorem hd_X0_takePoints : mHd yX0_takePoints 1 := ⟨by decide +kernel, by decide +kernel, by decide +kernel⟩
theorem DX0_takePoints_0 : ∀ t ∈ ([(0, .aload_n 0, 1), (1, .aload_n 1, 1), (2, .getfield 35, 3), (5, .invokestatic 39, 3), (8, .putfield 43, 3), (11, .iconst 0, 1), (12, .istore_n 2, 1), (13, .iload_n 2, 1), (14, .bipush 64, 2), (16, .if_icmp .ge 31, 3), (19, .aload_n 0, 1), (20, .getfield 11, 3), (23, .iload_n 2, 1), (24, .aload_n 1, 1), (25, .iload_n 2, 1), (26, .invokevirtual 47, 3), (29, .lastore, 1), (30, .aload_n 0, 1), (31, .getfield 17, 3), (34, .iload_n 2, 1), (35, .aload_n 1, 1), (36, .iload_n 2, 1), (37, .invokevirtual 50, 3), (40, .lastore, 1), (41, .iinc 2 1, 3), (44, .goto (-31), 3), (47, .aload_n 0, 1), (48, .invokevirtual 53, 3), (51, .return_, 1)] : List (Nat × Instr × Nat)), decode cX0_takePoints t.1 = .ok (t.2.1, t.2.2) := by decide +kernel
noncomputable def f_X0_takePoints_13 (s_o1 : OS) : (OS × Int32) → Option ((OS × Int32) ⊕ (OS)) := fun z => match z with | (s_t, b2) => (if 64 ≤ b2 then some (.inr s_t) else (f_X10_setAt s_o1 b2).bind (fun x7 => if inb b2 64 = true then bnd (oB s_t 0 (vp_updL (s_t.2.2.2 0) (b2 : Int32).toNatClampNeg x7)) (fun t11 => (f_X10_throughAt s_o1 b2).bind (fun x13 => bnd (oB t11 1 (vp_updL (t11.2.2.2 1) (b2 : Int32).toNatClampNeg x13)) (fun t16 => bnd (b2 + 1 : Int32) (fun v18 => some (.inl ((t16, v18))))))) else none))
noncomputable def f_X0_takePoints (st : OS) (st1 : OS) : Option (OS) := (f_X10_first (st1.1 1)).bind (fun x1 => bnd (oJ st 3 x1) (fun t4 => (lpv (f_X0_takePoints_13 st1) ((t4, 0))).bind (fun x20 => (f_X0_bar x20).bind (fun x23 => some x23))))
set_option maxHeartbeats 4000000 in
set_option maxRecDepth 100000 in
theorem w_X0_takePoints_13 {p : Program} {l : Launch} {e : Env} {s : State} {m : MethodId} {args : Array Value} {below : List Frame} {meth : Method} {c : Code} {Q : State → Prop} {G : mG} {h : mM} {q : Nat → Nat} {q1 : Nat → Nat} (hq : oinj LX0 q) (hq1 : oinj LX10 q1) (ha : oap [(LX0, q), (LX10, q1)]) (X : mX G p m c cX0_takePoints 3 s args RX0) (s_o1 : OS) : ∀ (z : OS × Int32) (r : OS), lpv (f_X0_takePoints_13 s_o1) z = some r → ∀ (H : Heap) (locs : List Loc) (ls : Array Slot), mH G (oset LX0 G q z.1 (oset LX10 G q1 s_o1 h)) s.heap H locs → lv_has ls 3 [(0, .ref (q 11)), (1, .ref (q1 5)), (2, .int z.2)] → (∀ (H : Heap) (locs : List Loc) (ls : Array Slot), mH G (oset LX0 G q r (oset LX10 G q1 s_o1 h)) s.heap H locs → lv_has ls 3 [(0, .ref (q 11))] → W p l e rm_X0_takePoints s m args below meth c H locs 0 0 Q (F0 m 47 ls [])) → W p l e rm_X0_takePoints s m args below meth c H locs 0 0 Q (F0 m 13 ls []) := by
  refine lpv_rec ?_
  intro z r x hF hx H locs ls hH hl K0
  obtain ⟨s_t, b2⟩ := z
  dsimp only [f_X0_takePoints_13] at hF
  try dsimp only at hH hl
  refine lv_iload_n X.x X.b (dk DX0_takePoints_0 7 rfl) rfl (lv_at hl 2 rfl) ?_
  refine lv_bipush (v := 64) X.x X.b (dk DX0_takePoints_0 8 rfl) (by decide) ?_
  refine lv_icmp_ge (tgt := 47) X.x X.b (dk DX0_takePoints_0 9 rfl) (by decide) (fun c6 => ?_) (fun c6 => ?_)
  · replace hF := if_t hF c6
    have hr9 := lp_r hF hx
    subst hr9
    exact K0 _ _ _ hH (lv_sub hl [0] rfl)
  · replace hF := if_f hF c6
    refine lv_aload_n X.x X.b (dk DX0_takePoints_0 10 rfl) rfl (lv_at hl 0 rfl) ?_
    refine og_getR (t := 1) OX0 X hq hH 0 (by decide) rfl kF_X0_11 (dk DX0_takePoints_0 11 rfl) ?_
    refine lv_iload_n X.x X.b (dk DX0_takePoints_0 12 rfl) rfl (lv_at hl 2 rfl) ?_
    refine lv_aload_n X.x X.b (dk DX0_takePoints_0 13 rfl) rfl (lv_at hl 1 rfl) ?_
    refine lv_iload_n X.x X.b (dk DX0_takePoints_0 14 rfl) rfl (lv_at hl 2 rfl) ?_
    obtain ⟨x7, e8, hF⟩ := bd hF
    refine mr_cl0 (mH_perm (l1 := [(LX0, q, s_t), (LX10, q1, s_o1)]) (l2 := [(LX10, q1, s_o1), (LX0, q, s_t)]) ha [1, 0] [1, 0] rfl rfl rfl hH) ⟨rfl, rfl⟩ (mr_runV (As := [.int b2]) (rest := [.int b2, .ref (q 0)]) X (mH_perm (l1 := [(LX0, q, s_t), (LX10, q1, s_o1)]) (l2 := [(LX10, q1, s_o1), (LX0, q, s_t)]) ha [1, 0] [1, 0] rfl rfl rfl hH) (c_X10_setAt hq1 e8) ((oset_at hq1 (Nat.le_refl _) ohas_N).trans (congrArg some ocell_N)) OX10.1 kM_X0_47 kI_X10_setAt kS_X10_setAt kN_X10 kC_X10_setAt hd_X10_setAt ⟨Nat.le_of_ble_eq_true rfl, Nat.le_of_ble_eq_true rfl⟩ rfl hl.1 (Nat.le_of_ble_eq_true rfl) (dk DX0_takePoints_0 15 rfl) ⟨Nat.zero_le _, Nat.zero_le _⟩) (fun r h1 H locs hp hH => ?_)
    obtain ⟨hr1, hr2⟩ := hp; rw [hr1]; rw [hr2] at hH; clear hr1 hr2
    replace hH : mH G (oset LX0 G q s_t (oset LX10 G q1 s_o1 h)) s.heap H locs := mH_unperm (l1 := [(LX0, q, s_t), (LX10, q1, s_o1)]) (l2 := [(LX10, q1, s_o1), (LX0, q, s_t)]) ha [1, 0] [1, 0] rfl rfl rfl hH
    obtain ⟨c10, hF⟩ := gd hF
    refine og_last X hq hH 0 (by decide) rfl (inb_in c10) (dk DX0_takePoints_0 16 rfl) (fun H locs hH => ?_)
    obtain ⟨t11, e12⟩ : ∃ y, y = oB s_t 0 (vp_updL (s_t.2.2.2 0) (b2 : Int32).toNatClampNeg x7) := ⟨_, rfl⟩
    rw [← e12] at hH
    replace hF := bnd_e hF e12
    refine lv_aload_n X.x X.b (dk DX0_takePoints_0 17 rfl) rfl (lv_at hl 0 rfl) ?_
    refine og_getR (t := 1) OX0 X hq hH 1 (by decide) rfl kF_X0_17 (dk DX0_takePoints_0 18 rfl) ?_
    refine lv_iload_n X.x X.b (dk DX0_takePoints_0 19 rfl) rfl (lv_at hl 2 rfl) ?_
    refine lv_aload_n X.x X.b (dk DX0_takePoints_0 20 rfl) rfl (lv_at hl 1 rfl) ?_
    refine lv_iload_n X.x X.b (dk DX0_takePoints_0 21 rfl) rfl (lv_at hl 2 rfl) ?_
    obtain ⟨x13, e14, hF⟩ := bd hF
    refine mr_cl0 (mH_perm (l1 := [(LX0, q, t11), (LX10, q1, s_o1)]) (l2 := [(LX10, q1, s_o1), (LX0, q, t11)]) ha [1, 0] [1, 0] rfl rfl rfl hH) ⟨rfl, rfl⟩ (mr_runV (As := [.int b2]) (rest := [.int b2, .ref (q 1)]) X (mH_perm (l1 := [(LX0, q, t11), (LX10, q1, s_o1)]) (l2 := [(LX10, q1, s_o1), (LX0, q, t11)]) ha [1, 0] [1, 0] rfl rfl rfl hH) (c_X10_throughAt hq1 e14) ((oset_at hq1 (Nat.le_refl _) ohas_N).trans (congrArg some ocell_N)) OX10.1 kM_X0_50 kI_X10_throughAt kS_X10_throughAt kN_X10 kC_X10_throughAt hd_X10_throughAt ⟨Nat.le_of_ble_eq_true rfl, Nat.le_of_ble_eq_true rfl⟩ rfl hl.1 (Nat.le_of_ble_eq_true rfl) (dk DX0_takePoints_0 22 rfl) ⟨Nat.zero_le _, Nat.zero_le _⟩) (fun r h1 H locs hp hH => ?_)
    obtain ⟨hr1, hr2⟩ := hp; rw [hr1]; rw [hr2] at hH; clear hr1 hr2
    replace hH : mH G (oset LX0 G q t11 (oset LX10 G q1 s_o1 h)) s.heap H locs := mH_unperm (l1 := [(LX0, q, t11), (LX10, q1, s_o1)]) (l2 := [(LX10, q1, s_o1), (LX0, q, t11)]) ha [1, 0] [1, 0] rfl rfl rfl hH
    refine og_last X hq hH 1 (by decide) rfl (inb_in c10) (dk DX0_takePoints_0 23 rfl) (fun H locs hH => ?_)
    obtain ⟨t16, e17⟩ : ∃ y, y = oB t11 1 (vp_updL (t11.2.2.2 1) (b2 : Int32).toNatClampNeg x13) := ⟨_, rfl⟩
    rw [← e17] at hH
    replace hF := bnd_e hF e17
    obtain ⟨v18, e19⟩ : ∃ y : Int32, y = b2 + 1 := ⟨_, rfl⟩
    replace hF := bnd_e hF e19
    refine lv_iinc (v := v18) (lv' := [(2, .int v18), (0, .ref (q 11)), (1, .ref (q1 5))]) X.x X.b (dk DX0_takePoints_0 24 rfl) hl (k := 2) rfl (by rw [e19]; rfl) (by decide) rfl (fun ls hl => ?_)
    replace hl : lv_has ls 3 [(0, .ref (q 11)), (1, .ref (q1 5)), (2, .int v18)] := lv_sub hl [1, 2, 0] rfl
    refine lv_goto (tgt := 13) X.x X.b (dk DX0_takePoints_0 25 rfl) (by decide) ?_
    exact (lp_l hF hx) _ _ _ hH (lv_sub hl [0, 1, 2] rfl) K0
set_option maxHeartbeats 4000000 in
set_option maxRecDepth 100000 in
theorem c_X0_takePoints {l : Launch} {G : mG} {h : mM} {q : Nat → Nat} {q1 : Nat → Nat} (hq : oinj LX0 q) (hq1 : oinj LX10 q1) (ha : oap [(LX0, q), (LX10, q1)]) {st : OS} {st1 : OS} {x : OS} (hF : f_X0_takePoints st st1 = some x) : cQ l G yX0_takePoints cX0_takePoints 3 none rm_X0_takePoints [.ref (q 11), .ref (q1 5)] (oset LX0 G q st (oset LX10 G q1 st1 h)) (mQv G (fun h1 => h1 = oset LX0 G q x (oset LX10 G q1 st1 h))) := by
  refine mp_of (by decide +kernel) (Nat.le_of_ble_eq_true rfl) ?_
  intro p e s m below meth c X hr hlk hH hname ls hl
  dsimp only [f_X0_takePoints] at hF
  replace hl : lv_has ls 3 [(0, .ref (q 11)), (1, .ref (q1 5))] := hl
  refine lv_aload_n X.x X.b (dk DX0_takePoints_0 0 rfl) rfl (lv_at hl 0 rfl) ?_
  refine lv_aload_n X.x X.b (dk DX0_takePoints_0 1 rfl) rfl (lv_at hl 1 rfl) ?_
  refine og_getIN OX10 X hq1 (mH_perm (l1 := [(LX0, q, st), (LX10, q1, st1)]) (l2 := [(LX10, q1, st1), (LX0, q, st)]) ha [1, 0] [1, 0] rfl rfl rfl hH) 1 (by decide) rfl kFN_X0_35 (dk DX0_takePoints_0 2 rfl) ?_
  obtain ⟨x1, e2, hF⟩ := bd hF
  refine mr_cl0 hH ⟨rfl, rfl⟩ (mr_runS (As := [.int (st1.1 1)]) (rest := [.ref (q 11)]) X hH (c_X10_first e2) kM_X0_39 kT_X10_first kN_X10 kC_X10_first hd_X10_first ⟨Nat.le_of_ble_eq_true rfl, Nat.le_of_ble_eq_true rfl⟩ rfl hl.1 (Nat.le_of_ble_eq_true rfl) (dk DX0_takePoints_0 3 rfl) ⟨Nat.zero_le _, Nat.zero_le _⟩) (fun r h1 H locs hp hH => ?_)
  obtain ⟨hr1, hr2⟩ := hp; rw [hr1]; rw [hr2] at hH; clear hr1 hr2
  refine og_putJ OX0 X hq hH 3 (by decide) rfl kF_X0_43 rfl rfl rfl (dk DX0_takePoints_0 4 rfl) (fun H locs hH => ?_)
  obtain ⟨t4, e5⟩ : ∃ y, y = oJ st 3 x1 := ⟨_, rfl⟩
  rw [← e5] at hH
  replace hF := bnd_e hF e5
  refine lv_iconst (v := 0) X.x X.b (dk DX0_takePoints_0 5 rfl) (by decide) ?_
  refine lv_istore_n (lv' := [(2, .int 0), (0, .ref (q 11)), (1, .ref (q1 5))]) X.x X.b (dk DX0_takePoints_0 6 rfl) rfl hl (by decide) rfl (fun ls hl => ?_)
  replace hl : lv_has ls 3 [(0, .ref (q 11)), (1, .ref (q1 5)), (2, .int 0)] := lv_sub hl [1, 2, 0] rfl
  obtain ⟨x20, e21, hF⟩ := bd hF
  replace hl : lv_has ls 3 [(0, .ref (q 11)), (1, .ref (q1 5)), (2, .int 0)] := lv_sub hl [0, 1, 2] rfl
  refine w_X0_takePoints_13 hq hq1 ha X st1 _ _ e21 _ _ _ hH hl (fun H locs ls hH hl => ?_)
  refine lv_aload_n X.x X.b (dk DX0_takePoints_0 26 rfl) rfl (lv_at hl 0 rfl) ?_
  obtain ⟨x23, e24, hF⟩ := bd hF
  refine mr_cv0 hH ⟨rfl, rfl⟩ (mr_runV (As := []) (rest := []) X hH (c_X0_bar hq e24) ((oset_at hq (Nat.le_refl _) ohas_N).trans (congrArg some ocell_N)) OX0.1 kM_X0_53 kI_X0_bar kS_X0_bar kN_X0 kC_X0_bar hd_X0_bar ⟨Nat.le_of_ble_eq_true rfl, Nat.le_of_ble_eq_true rfl⟩ rfl hl.1 (Nat.le_of_ble_eq_true rfl) (dk DX0_takePoints_0 27 rfl) ⟨Nat.zero_le _, Nat.zero_le _⟩) (fun h1 H locs hp hH => ?_)
  rw [hp] at hH; clear hp
  cases sm hF
  exact mr_vret X hr hlk hH rfl (dk DX0_takePoints_0 28 rfl)
-- X10_all
abbrev rm_X10_all : Room := { frames := 1, cells := 0, slots := 0, locals := 20 }
theorem hd_X10_all : mHd yX10_all 0 := ⟨by decide +kernel, by decide +kernel, by decide +kernel⟩
theorem DX10_all_0 : ∀ t ∈ ([(0, .aload_n 0, 1), (1, .getfield 29, 3), (4, .invokestatic 33, 3), (7, .lreturn, 1)] : List (Nat × Instr × Nat)), decode cX10_all t.1 = .ok (t.2.1, t.2.2) := by decide +kernel
noncomputable def f_X10_all (st : OS) : Option (Int64) := (f_X10_first (st.1 0)).bind (fun x1 => some x1)
set_option maxHeartbeats 4000000 in
set_option maxRecDepth 100000 in
theorem c_X10_all {l : Launch} {G : mG} {h : mM} {q : Nat → Nat} (hq : oinj LX10 q) {st : OS} {x : Int64} (hF : f_X10_all st = some x) : cQ l G yX10_all cX10_all 1 (some FieldType.long) rm_X10_all [.ref (q 5)] (oset LX10 G q st h) (mQl G (fun r h1 => r = x ∧ h1 = oset LX10 G q st h)) := by
  refine mp_of (by decide +kernel) (Nat.le_of_ble_eq_true rfl) ?_
  intro p e s m below meth c X hr hlk hH hname ls hl
  dsimp only [f_X10_all] at hF
  replace hl : lv_has ls 1 [(0, .ref (q 5))] := hl
  refine lv_aload_n X.x X.b (dk DX10_all_0 0 rfl) rfl (lv_at hl 0 rfl) ?_
  refine og_getI OX10 X hq hH 0 (by decide) rfl kF_X10_29 (dk DX10_all_0 1 rfl) ?_
  obtain ⟨x1, e2, hF⟩ := bd hF
  refine mr_cl0 hH ⟨rfl, rfl⟩ (mr_runS (As := [.int (st.1 0)]) (rest := []) X hH (c_X10_first e2) kM_X10_33 kT_X10_first kN_X10 kC_X10_first hd_X10_first ⟨Nat.le_of_ble_eq_true rfl, Nat.le_of_ble_eq_true rfl⟩ rfl hl.1 (Nat.le_of_ble_eq_true rfl) (dk DX10_all_0 2 rfl) ⟨Nat.zero_le _, Nat.zero_le _⟩) (fun r h1 H locs hp hH => ?_)
  obtain ⟨hr1, hr2⟩ := hp; rw [hr1]; rw [hr2] at hH; clear hr1 hr2
  cases sm hF
  exact mr_lret X hr hlk hH ⟨rfl, rfl⟩ (dk DX10_all_0 3 rfl)
-- X0_takeLines
abbrev rm_X0_takeLines : Room := { frames := 2, cells := 0, slots := 0, locals := 44 }
theorem hd_X0_takeLines : mHd yX0_takeLines 1 := ⟨by decide +kernel, by decide +kernel, by decide +kernel⟩
theorem DX0_takeLines_0 : ∀ t ∈ ([(0, .aload_n 0, 1), (1, .aload_n 1, 1), (2, .invokevirtual 56, 3), (5, .putfield 43, 3), (8, .iconst 0, 1), (9, .istore_n 2, 1), (10, .iload_n 2, 1), (11, .bipush 64, 2), (13, .if_icmp .ge 31, 3), (16, .aload_n 0, 1), (17, .getfield 11, 3), (20, .iload_n 2, 1), (21, .aload_n 1, 1), (22, .iload_n 2, 1), (23, .invokevirtual 50, 3), (26, .lastore, 1), (27, .aload_n 0, 1), (28, .getfield 17, 3), (31, .iload_n 2, 1), (32, .aload_n 1, 1), (33, .iload_n 2, 1), (34, .invokevirtual 47, 3), (37, .lastore, 1), (38, .iinc 2 1, 3), (41, .goto (-31), 3), (44, .aload_n 0, 1), (45, .invokevirtual 53, 3), (48, .return_, 1)] : List (Nat × Instr × Nat)), decode cX0_takeLines t.1 = .ok (t.2.1, t.2.2) := by decide +kernel
noncomputable def f_X0_takeLines_10 (s_o1 : OS) : (OS × Int32) → Option ((OS × Int32) ⊕ (OS)) := fun z => match z with | (s_t, b2) => (if 64 ≤ b2 then some (.inr s_t) else (f_X10_throughAt s_o1 b2).bind (fun x7 => if inb b2 64 = true then bnd (oB s_t 0 (vp_updL (s_t.2.2.2 0) (b2 : Int32).toNatClampNeg x7)) (fun t11 => (f_X10_setAt s_o1 b2).bind (fun x13 => bnd (oB t11 1 (vp_updL (t11.2.2.2 1) (b2 : Int32).toNatClampNeg x13)) (fun t16 => bnd (b2 + 1 : Int32) (fun v18 => some (.inl ((t16, v18))))))) else none))
noncomputable def f_X0_takeLines (st : OS) (st1 : OS) : Option (OS) := (f_X10_all st1).bind (fun x1 => bnd (oJ st 3 x1) (fun t4 => (lpv (f_X0_takeLines_10 st1) ((t4, 0))).bind (fun x20 => (f_X0_bar x20).bind (fun x23 => some x23))))
set_option maxHeartbeats 4000000 in
set_option maxRecDepth 100000 in
theorem w_X0_takeLines_10 {p : Program} {l : Launch} {e : Env} {s : State} {m : MethodId} {args : Array Value} {below : List Frame} {meth : Method} {c : Code} {Q : State → Prop} {G : mG} {h : mM} {q : Nat → Nat} {q1 : Nat → Nat} (hq : oinj LX0 q) (hq1 : oinj LX10 q1) (ha : oap [(LX0, q), (LX10, q1)]) (X : mX G p m c cX0_takeLines 3 s args RX0) (s_o1 : OS) : ∀ (z : OS × Int32) (r : OS), lpv (f_X0_takeLines_10 s_o1) z = some r → ∀ (H : Heap) (locs : List Loc) (ls : Array Slot), mH G (oset LX0 G q z.1 (oset LX10 G q1 s_o1 h)) s.heap H locs → lv_has ls 3 [(0, .ref (q 11)), (1, .ref (q1 5)), (2, .int z.2)] → (∀ (H : Heap) (locs : List Loc) (ls : Array Slot), mH G (oset LX0 G q r (oset LX10 G q1 s_o1 h)) s.heap H locs → lv_has ls 3 [(0, .ref (q 11))] → W p l e rm_X0_takeLines s m args below meth c H locs 0 0 Q (F0 m 44 ls [])) → W p l e rm_X0_takeLines s m args below meth c H locs 0 0 Q (F0 m 10 ls []) := by
  refine lpv_rec ?_
  intro z r x hF hx H locs ls hH hl K0
  obtain ⟨s_t, b2⟩ := z
  dsimp only [f_X0_takeLines_10] at hF
  try dsimp only at hH hl
  refine lv_iload_n X.x X.b (dk DX0_takeLines_0 6 rfl) rfl (lv_at hl 2 rfl) ?_
  refine lv_bipush (v := 64) X.x X.b (dk DX0_takeLines_0 7 rfl) (by decide) ?_
  refine lv_icmp_ge (tgt := 44) X.x X.b (dk DX0_takeLines_0 8 rfl) (by decide) (fun c6 => ?_) (fun c6 => ?_)
  · replace hF := if_t hF c6
    have hr9 := lp_r hF hx
    subst hr9
    exact K0 _ _ _ hH (lv_sub hl [0] rfl)
  · replace hF := if_f hF c6
    refine lv_aload_n X.x X.b (dk DX0_takeLines_0 9 rfl) rfl (lv_at hl 0 rfl) ?_
    refine og_getR (t := 1) OX0 X hq hH 0 (by decide) rfl kF_X0_11 (dk DX0_takeLines_0 10 rfl) ?_
    refine lv_iload_n X.x X.b (dk DX0_takeLines_0 11 rfl) rfl (lv_at hl 2 rfl) ?_
    refine lv_aload_n X.x X.b (dk DX0_takeLines_0 12 rfl) rfl (lv_at hl 1 rfl) ?_
    refine lv_iload_n X.x X.b (dk DX0_takeLines_0 13 rfl) rfl (lv_at hl 2 rfl) ?_
    obtain ⟨x7, e8, hF⟩ := bd hF
    refine mr_cl0 (mH_perm (l1 := [(LX0, q, s_t), (LX10, q1, s_o1)]) (l2 := [(LX10, q1, s_o1), (LX0, q, s_t)]) ha [1, 0] [1, 0] rfl rfl rfl hH) ⟨rfl, rfl⟩ (mr_runV (As := [.int b2]) (rest := [.int b2, .ref (q 0)]) X (mH_perm (l1 := [(LX0, q, s_t), (LX10, q1, s_o1)]) (l2 := [(LX10, q1, s_o1), (LX0, q, s_t)]) ha [1, 0] [1, 0] rfl rfl rfl hH) (c_X10_throughAt hq1 e8) ((oset_at hq1 (Nat.le_refl _) ohas_N).trans (congrArg some ocell_N)) OX10.1 kM_X0_50 kI_X10_throughAt kS_X10_throughAt kN_X10 kC_X10_throughAt hd_X10_throughAt ⟨Nat.le_of_ble_eq_true rfl, Nat.le_of_ble_eq_true rfl⟩ rfl hl.1 (Nat.le_of_ble_eq_true rfl) (dk DX0_takeLines_0 14 rfl) ⟨Nat.zero_le _, Nat.zero_le _⟩) (fun r h1 H locs hp hH => ?_)
    obtain ⟨hr1, hr2⟩ := hp; rw [hr1]; rw [hr2] at hH; clear hr1 hr2
    replace hH : mH G (oset LX0 G q s_t (oset LX10 G q1 s_o1 h)) s.heap H locs := mH_unperm (l1 := [(LX0, q, s_t), (LX10, q1, s_o1)]) (l2 := [(LX10, q1, s_o1), (LX0, q, s_t)]) ha [1, 0] [1, 0] rfl rfl rfl hH
    obtain ⟨c10, hF⟩ := gd hF
    refine og_last X hq hH 0 (by decide) rfl (inb_in c10) (dk DX0_takeLines_0 15 rfl) (fun H locs hH => ?_)
    obtain ⟨t11, e12⟩ : ∃ y, y = oB s_t 0 (vp_updL (s_t.2.2.2 0) (b2 : Int32).toNatClampNeg x7) := ⟨_, rfl⟩
    rw [← e12] at hH
    replace hF := bnd_e hF e12
    refine lv_aload_n X.x X.b (dk DX0_takeLines_0 16 rfl) rfl (lv_at hl 0 rfl) ?_
    refine og_getR (t := 1) OX0 X hq hH 1 (by decide) rfl kF_X0_17 (dk DX0_takeLines_0 17 rfl) ?_
    refine lv_iload_n X.x X.b (dk DX0_takeLines_0 18 rfl) rfl (lv_at hl 2 rfl) ?_
    refine lv_aload_n X.x X.b (dk DX0_takeLines_0 19 rfl) rfl (lv_at hl 1 rfl) ?_
    refine lv_iload_n X.x X.b (dk DX0_takeLines_0 20 rfl) rfl (lv_at hl 2 rfl) ?_
    obtain ⟨x13, e14, hF⟩ := bd hF
    refine mr_cl0 (mH_perm (l1 := [(LX0, q, t11), (LX10, q1, s_o1)]) (l2 := [(LX10, q1, s_o1), (LX0, q, t11)]) ha [1, 0] [1, 0] rfl rfl rfl hH) ⟨rfl, rfl⟩ (mr_runV (As := [.int b2]) (rest := [.int b2, .ref (q 1)]) X (mH_perm (l1 := [(LX0, q, t11), (LX10, q1, s_o1)]) (l2 := [(LX10, q1, s_o1), (LX0, q, t11)]) ha [1, 0] [1, 0] rfl rfl rfl hH) (c_X10_setAt hq1 e14) ((oset_at hq1 (Nat.le_refl _) ohas_N).trans (congrArg some ocell_N)) OX10.1 kM_X0_47 kI_X10_setAt kS_X10_setAt kN_X10 kC_X10_setAt hd_X10_setAt ⟨Nat.le_of_ble_eq_true rfl, Nat.le_of_ble_eq_true rfl⟩ rfl hl.1 (Nat.le_of_ble_eq_true rfl) (dk DX0_takeLines_0 21 rfl) ⟨Nat.zero_le _, Nat.zero_le _⟩) (fun r h1 H locs hp hH => ?_)
    obtain ⟨hr1, hr2⟩ := hp; rw [hr1]; rw [hr2] at hH; clear hr1 hr2
    replace hH : mH G (oset LX0 G q t11 (oset LX10 G q1 s_o1 h)) s.heap H locs := mH_unperm (l1 := [(LX0, q, t11), (LX10, q1, s_o1)]) (l2 := [(LX10, q1, s_o1), (LX0, q, t11)]) ha [1, 0] [1, 0] rfl rfl rfl hH
    refine og_last X hq hH 1 (by decide) rfl (inb_in c10) (dk DX0_takeLines_0 22 rfl) (fun H locs hH => ?_)
    obtain ⟨t16, e17⟩ : ∃ y, y = oB t11 1 (vp_updL (t11.2.2.2 1) (b2 : Int32).toNatClampNeg x13) := ⟨_, rfl⟩
    rw [← e17] at hH
    replace hF := bnd_e hF e17
    obtain ⟨v18, e19⟩ : ∃ y : Int32, y = b2 + 1 := ⟨_, rfl⟩
    replace hF := bnd_e hF e19
    refine lv_iinc (v := v18) (lv' := [(2, .int v18), (0, .ref (q 11)), (1, .ref (q1 5))]) X.x X.b (dk DX0_takeLines_0 23 rfl) hl (k := 2) rfl (by rw [e19]; rfl) (by decide) rfl (fun ls hl => ?_)
    replace hl : lv_has ls 3 [(0, .ref (q 11)), (1, .ref (q1 5)), (2, .int v18)] := lv_sub hl [1, 2, 0] rfl
    refine lv_goto (tgt := 10) X.x X.b (dk DX0_takeLines_0 24 rfl) (by decide) ?_
    exact (lp_l hF hx) _ _ _ hH (lv_sub hl [0, 1, 2] rfl) K0
set_option maxHeartbeats 4000000 in
set_option maxRecDepth 100000 in
theorem c_X0_takeLines {l : Launch} {G : mG} {h : mM} {q : Nat → Nat} {q1 : Nat → Nat} (hq : oinj LX0 q) (hq1 : oinj LX10 q1) (ha : oap [(LX0, q), (LX10, q1)]) {st : OS} {st1 : OS} {x : OS} (hF : f_X0_takeLines st st1 = some x) : cQ l G yX0_takeLines cX0_takeLines 3 none rm_X0_takeLines [.ref (q 11), .ref (q1 5)] (oset LX0 G q st (oset LX10 G q1 st1 h)) (mQv G (fun h1 => h1 = oset LX0 G q x (oset LX10 G q1 st1 h))) := by
  refine mp_of (by decide +kernel) (Nat.le_of_ble_eq_true rfl) ?_
  intro p e s m below meth c X hr hlk hH hname ls hl
  dsimp only [f_X0_takeLines] at hF
  replace hl : lv_has ls 3 [(0, .ref (q 11)), (1, .ref (q1 5))] := hl
  refine lv_aload_n X.x X.b (dk DX0_takeLines_0 0 rfl) rfl (lv_at hl 0 rfl) ?_
  refine lv_aload_n X.x X.b (dk DX0_takeLines_0 1 rfl) rfl (lv_at hl 1 rfl) ?_
  obtain ⟨x1, e2, hF⟩ := bd hF
  refine mr_cl0 (mH_perm (l1 := [(LX0, q, st), (LX10, q1, st1)]) (l2 := [(LX10, q1, st1), (LX0, q, st)]) ha [1, 0] [1, 0] rfl rfl rfl hH) ⟨rfl, rfl⟩ (mr_runV (As := []) (rest := [.ref (q 11)]) X (mH_perm (l1 := [(LX0, q, st), (LX10, q1, st1)]) (l2 := [(LX10, q1, st1), (LX0, q, st)]) ha [1, 0] [1, 0] rfl rfl rfl hH) (c_X10_all hq1 e2) ((oset_at hq1 (Nat.le_refl _) ohas_N).trans (congrArg some ocell_N)) OX10.1 kM_X0_56 kI_X10_all kS_X10_all kN_X10 kC_X10_all hd_X10_all ⟨Nat.le_of_ble_eq_true rfl, Nat.le_of_ble_eq_true rfl⟩ rfl hl.1 (Nat.le_of_ble_eq_true rfl) (dk DX0_takeLines_0 2 rfl) ⟨Nat.zero_le _, Nat.zero_le _⟩) (fun r h1 H locs hp hH => ?_)
  obtain ⟨hr1, hr2⟩ := hp; rw [hr1]; rw [hr2] at hH; clear hr1 hr2
  replace hH : mH G (oset LX0 G q st (oset LX10 G q1 st1 h)) s.heap H locs := mH_unperm (l1 := [(LX0, q, st), (LX10, q1, st1)]) (l2 := [(LX10, q1, st1), (LX0, q, st)]) ha [1, 0] [1, 0] rfl rfl rfl hH
  refine og_putJ OX0 X hq hH 3 (by decide) rfl kF_X0_43 rfl rfl rfl (dk DX0_takeLines_0 3 rfl) (fun H locs hH => ?_)
  obtain ⟨t4, e5⟩ : ∃ y, y = oJ st 3 x1 := ⟨_, rfl⟩
  rw [← e5] at hH
  replace hF := bnd_e hF e5
  refine lv_iconst (v := 0) X.x X.b (dk DX0_takeLines_0 4 rfl) (by decide) ?_
  refine lv_istore_n (lv' := [(2, .int 0), (0, .ref (q 11)), (1, .ref (q1 5))]) X.x X.b (dk DX0_takeLines_0 5 rfl) rfl hl (by decide) rfl (fun ls hl => ?_)
  replace hl : lv_has ls 3 [(0, .ref (q 11)), (1, .ref (q1 5)), (2, .int 0)] := lv_sub hl [1, 2, 0] rfl
  obtain ⟨x20, e21, hF⟩ := bd hF
  replace hl : lv_has ls 3 [(0, .ref (q 11)), (1, .ref (q1 5)), (2, .int 0)] := lv_sub hl [0, 1, 2] rfl
  refine w_X0_takeLines_10 hq hq1 ha X st1 _ _ e21 _ _ _ hH hl (fun H locs ls hH hl => ?_)
  refine lv_aload_n X.x X.b (dk DX0_takeLines_0 25 rfl) rfl (lv_at hl 0 rfl) ?_
  obtain ⟨x23, e24, hF⟩ := bd hF
  refine mr_cv0 hH ⟨rfl, rfl⟩ (mr_runV (As := []) (rest := []) X hH (c_X0_bar hq e24) ((oset_at hq (Nat.le_refl _) ohas_N).trans (congrArg some ocell_N)) OX0.1 kM_X0_53 kI_X0_bar kS_X0_bar kN_X0 kC_X0_bar hd_X0_bar ⟨Nat.le_of_ble_eq_true rfl, Nat.le_of_ble_eq_true rfl⟩ rfl hl.1 (Nat.le_of_ble_eq_true rfl) (dk DX0_takeLines_0 26 rfl) ⟨Nat.zero_le _, Nat.zero_le _⟩) (fun h1 H locs hp hH => ?_)
  rw [hp] at hH; clear hp
  cases sm hF
  exact mr_vret X hr hlk hH rfl (dk DX0_takeLines_0 27 rfl)
-- J6_numberOfTrailingZeros_0f7a4
abbrev rm_J6_numberOfTrailingZeros_0f7a4 : Room := { frames := 0, cells := 0, slots := 0, locals := 0 }
theorem hd_J6_numberOfTrailingZeros_0f7a4 : mHd yJ6_numberOfTrailingZeros_0f7a4 1 := ⟨by decide +kernel, by decide +kernel, by decide +kernel⟩
theorem DJ6_numberOfTrailingZeros_0f7a4_0 : ∀ t ∈ ([(0, .iload_n 0, 1), (1, .iconst (-1), 1), (2, .ixor, 1), (3, .iload_n 0, 1), (4, .iconst 1, 1), (5, .isub, 1), (6, .iand, 1), (7, .istore_n 0, 1), (8, .iload_n 0, 1), (9, .ifCond .gt 8, 3), (12, .iload_n 0, 1), (13, .bipush 32, 2), (15, .iand, 1), (16, .ireturn, 1), (17, .iconst 1, 1), (18, .istore_n 1, 1), (19, .iload_n 0, 1), (20, .ldc_w 264, 3), (23, .if_icmp .le 11, 3), (26, .iinc 1 16, 3), (29, .iload_n 0, 1), (30, .bipush 16, 2), (32, .iushr, 1), (33, .istore_n 0, 1), (34, .iload_n 0, 1), (35, .sipush 256, 3), (38, .if_icmp .le 11, 3), (41, .iinc 1 8, 3), (44, .iload_n 0, 1), (45, .bipush 8, 2), (47, .iushr, 1), (48, .istore_n 0, 1), (49, .iload_n 0, 1), (50, .bipush 16, 2), (52, .if_icmp .le 10, 3), (55, .iinc 1 4, 3), (58, .iload_n 0, 1), (59, .iconst 4, 1), (60, .iushr, 1), (61, .istore_n 0, 1), (62, .iload_n 0, 1), (63, .iconst 4, 1), (64, .if_icmp .le 10, 3), (67, .iinc 1 2, 3), (70, .iload_n 0, 1), (71, .iconst 2, 1), (72, .iushr, 1), (73, .istore_n 0, 1), (74, .iload_n 1, 1), (75, .iload_n 0, 1), (76, .iconst 1, 1), (77, .iushr, 1), (78, .iadd, 1), (79, .ireturn, 1)] : List (Nat × Instr × Nat)), decode cJ6_numberOfTrailingZeros_0f7a4 t.1 = .ok (t.2.1, t.2.2) := by decide +kernel
noncomputable def f_J6_numberOfTrailingZeros_0f7a4 (a0 : Int32) : Option (Int32) := bnd ((a0 ^^^ ((-1))) &&& (a0 - 1) : Int32) (fun v1 => (if 0 < v1 then (if v1 ≤ 65536 then (if v1 ≤ 256 then (if v1 ≤ 16 then (if v1 ≤ 4 then some ((1 : Int32) + ((v1.toUInt32 >>> ((1 : Int32).toUInt32 &&& Int32.toUInt32 31)).toInt32)) else bnd (1 + 2 : Int32) (fun v8 => bnd ((v1.toUInt32 >>> ((2 : Int32).toUInt32 &&& Int32.toUInt32 31)).toInt32 : Int32) (fun v10 => some (v8 + ((v10.toUInt32 >>> ((1 : Int32).toUInt32 &&& Int32.toUInt32 31)).toInt32))))) else bnd (1 + 4 : Int32) (fun v12 => bnd ((v1.toUInt32 >>> ((4 : Int32).toUInt32 &&& Int32.toUInt32 31)).toInt32 : Int32) (fun v14 => (if v14 ≤ 4 then some (v12 + ((v14.toUInt32 >>> ((1 : Int32).toUInt32 &&& Int32.toUInt32 31)).toInt32)) else bnd (v12 + 2 : Int32) (fun v17 => bnd ((v14.toUInt32 >>> ((2 : Int32).toUInt32 &&& Int32.toUInt32 31)).toInt32 : Int32) (fun v19 => some (v17 + ((v19.toUInt32 >>> ((1 : Int32).toUInt32 &&& Int32.toUInt32 31)).toInt32)))))))) else bnd (1 + 8 : Int32) (fun v21 => bnd ((v1.toUInt32 >>> ((8 : Int32).toUInt32 &&& Int32.toUInt32 31)).toInt32 : Int32) (fun v23 => (if v23 ≤ 16 then (if v23 ≤ 4 then some (v21 + ((v23.toUInt32 >>> ((1 : Int32).toUInt32 &&& Int32.toUInt32 31)).toInt32)) else bnd (v21 + 2 : Int32) (fun v27 => bnd ((v23.toUInt32 >>> ((2 : Int32).toUInt32 &&& Int32.toUInt32 31)).toInt32 : Int32) (fun v29 => some (v27 + ((v29.toUInt32 >>> ((1 : Int32).toUInt32 &&& Int32.toUInt32 31)).toInt32))))) else bnd (v21 + 4 : Int32) (fun v31 => bnd ((v23.toUInt32 >>> ((4 : Int32).toUInt32 &&& Int32.toUInt32 31)).toInt32 : Int32) (fun v33 => (if v33 ≤ 4 then some (v31 + ((v33.toUInt32 >>> ((1 : Int32).toUInt32 &&& Int32.toUInt32 31)).toInt32)) else bnd (v31 + 2 : Int32) (fun v36 => bnd ((v33.toUInt32 >>> ((2 : Int32).toUInt32 &&& Int32.toUInt32 31)).toInt32 : Int32) (fun v38 => some (v36 + ((v38.toUInt32 >>> ((1 : Int32).toUInt32 &&& Int32.toUInt32 31)).toInt32))))))))))) else bnd (1 + 16 : Int32) (fun v40 => bnd ((v1.toUInt32 >>> ((16 : Int32).toUInt32 &&& Int32.toUInt32 31)).toInt32 : Int32) (fun v42 => (if v42 ≤ 256 then (if v42 ≤ 16 then (if v42 ≤ 4 then some (v40 + ((v42.toUInt32 >>> ((1 : Int32).toUInt32 &&& Int32.toUInt32 31)).toInt32)) else bnd (v40 + 2 : Int32) (fun v47 => bnd ((v42.toUInt32 >>> ((2 : Int32).toUInt32 &&& Int32.toUInt32 31)).toInt32 : Int32) (fun v49 => some (v47 + ((v49.toUInt32 >>> ((1 : Int32).toUInt32 &&& Int32.toUInt32 31)).toInt32))))) else bnd (v40 + 4 : Int32) (fun v51 => bnd ((v42.toUInt32 >>> ((4 : Int32).toUInt32 &&& Int32.toUInt32 31)).toInt32 : Int32) (fun v53 => (if v53 ≤ 4 then some (v51 + ((v53.toUInt32 >>> ((1 : Int32).toUInt32 &&& Int32.toUInt32 31)).toInt32)) else bnd (v51 + 2 : Int32) (fun v56 => bnd ((v53.toUInt32 >>> ((2 : Int32).toUInt32 &&& Int32.toUInt32 31)).toInt32 : Int32) (fun v58 => some (v56 + ((v58.toUInt32 >>> ((1 : Int32).toUInt32 &&& Int32.toUInt32 31)).toInt32)))))))) else bnd (v40 + 8 : Int32) (fun v60 => bnd ((v42.toUInt32 >>> ((8 : Int32).toUInt32 &&& Int32.toUInt32 31)).toInt32 : Int32) (fun v62 => (if v62 ≤ 16 then (if v62 ≤ 4 then some (v60 + ((v62.toUInt32 >>> ((1 : Int32).toUInt32 &&& Int32.toUInt32 31)).toInt32)) else bnd (v60 + 2 : Int32) (fun v66 => bnd ((v62.toUInt32 >>> ((2 : Int32).toUInt32 &&& Int32.toUInt32 31)).toInt32 : Int32) (fun v68 => some (v66 + ((v68.toUInt32 >>> ((1 : Int32).toUInt32 &&& Int32.toUInt32 31)).toInt32))))) else bnd (v60 + 4 : Int32) (fun v70 => bnd ((v62.toUInt32 >>> ((4 : Int32).toUInt32 &&& Int32.toUInt32 31)).toInt32 : Int32) (fun v72 => (if v72 ≤ 4 then some (v70 + ((v72.toUInt32 >>> ((1 : Int32).toUInt32 &&& Int32.toUInt32 31)).toInt32)) else bnd (v70 + 2 : Int32) (fun v75 => bnd ((v72.toUInt32 >>> ((2 : Int32).toUInt32 &&& Int32.toUInt32 31)).toInt32 : Int32) (fun v77 => some (v75 + ((v77.toUInt32 >>> ((1 : Int32).toUInt32 &&& Int32.toUInt32 31)).toInt32)))))))))))))) else some (v1 &&& 32)))
set_option maxHeartbeats 4000000 in
set_option maxRecDepth 100000 in
theorem c_J6_numberOfTrailingZeros_0f7a4 {l : Launch} {G : mG} {h : mM}  {a0 : Int32} {x : Int32} (hF : f_J6_numberOfTrailingZeros_0f7a4 a0 = some x) : cQ l G yJ6_numberOfTrailingZeros_0f7a4 cJ6_numberOfTrailingZeros_0f7a4 2 (some FieldType.int) rm_J6_numberOfTrailingZeros_0f7a4 [.int a0] (h) (mQi G (fun r h1 => r = x ∧ h1 = h)) := by
  refine mp_of (by decide +kernel) (Nat.le_of_ble_eq_true rfl) ?_
  intro p e s m below meth c X hr hlk hH hname ls hl
  dsimp only [f_J6_numberOfTrailingZeros_0f7a4] at hF
  replace hl : lv_has ls 2 [(0, .int a0)] := hl
  refine lv_iload_n X.x X.b (dk DJ6_numberOfTrailingZeros_0f7a4_0 0 rfl) rfl (lv_at hl 0 rfl) ?_
  refine lv_iconst (v := (-1)) X.x X.b (dk DJ6_numberOfTrailingZeros_0f7a4_0 1 rfl) (by decide) ?_
  refine lv_ixor X.x X.b (dk DJ6_numberOfTrailingZeros_0f7a4_0 2 rfl) ?_
  refine lv_iload_n X.x X.b (dk DJ6_numberOfTrailingZeros_0f7a4_0 3 rfl) rfl (lv_at hl 0 rfl) ?_
  refine lv_iconst (v := 1) X.x X.b (dk DJ6_numberOfTrailingZeros_0f7a4_0 4 rfl) (by decide) ?_
  refine lv_isub X.x X.b (dk DJ6_numberOfTrailingZeros_0f7a4_0 5 rfl) ?_
  refine lv_iand X.x X.b (dk DJ6_numberOfTrailingZeros_0f7a4_0 6 rfl) ?_
  refine lv_topi (fun v1 e2 => ?_)
  replace hF := bnd_e hF e2
  refine lv_istore_n (lv' := [(0, .int v1)]) X.x X.b (dk DJ6_numberOfTrailingZeros_0f7a4_0 7 rfl) rfl hl (by decide) rfl (fun ls hl => ?_)
  replace hl : lv_has ls 2 [(0, .int v1)] := lv_sub hl [0] rfl
  refine lv_iload_n X.x X.b (dk DJ6_numberOfTrailingZeros_0f7a4_0 8 rfl) rfl (lv_at hl 0 rfl) ?_
  refine lv_if_gt (tgt := 17) X.x X.b (dk DJ6_numberOfTrailingZeros_0f7a4_0 9 rfl) (by decide) (fun c3 => ?_) (fun c3 => ?_)
  · replace hF := if_t hF c3
    refine lv_iconst (v := 1) X.x X.b (dk DJ6_numberOfTrailingZeros_0f7a4_0 14 rfl) (by decide) ?_
    refine lv_istore_n (lv' := [(1, .int 1), (0, .int v1)]) X.x X.b (dk DJ6_numberOfTrailingZeros_0f7a4_0 15 rfl) rfl hl (by decide) rfl (fun ls hl => ?_)
    replace hl : lv_has ls 2 [(0, .int v1), (1, .int 1)] := lv_sub hl [1, 0] rfl
    refine lv_iload_n X.x X.b (dk DJ6_numberOfTrailingZeros_0f7a4_0 16 rfl) rfl (lv_at hl 0 rfl) ?_
    refine lv_ldcw (v := 65536) X.x X.b X.ow (X.ts _ kK_J6_264) (dk DJ6_numberOfTrailingZeros_0f7a4_0 17 rfl) ?_
    refine lv_icmp_le (tgt := 34) X.x X.b (dk DJ6_numberOfTrailingZeros_0f7a4_0 18 rfl) (by decide) (fun c4 => ?_) (fun c4 => ?_)
    · replace hF := if_t hF c4
      refine lv_iload_n X.x X.b (dk DJ6_numberOfTrailingZeros_0f7a4_0 24 rfl) rfl (lv_at hl 0 rfl) ?_
      refine lv_sipush (v := 256) X.x X.b (dk DJ6_numberOfTrailingZeros_0f7a4_0 25 rfl) (by decide) ?_
      refine lv_icmp_le (tgt := 49) X.x X.b (dk DJ6_numberOfTrailingZeros_0f7a4_0 26 rfl) (by decide) (fun c5 => ?_) (fun c5 => ?_)
      · replace hF := if_t hF c5
        refine lv_iload_n X.x X.b (dk DJ6_numberOfTrailingZeros_0f7a4_0 32 rfl) rfl (lv_at hl 0 rfl) ?_
        refine lv_bipush (v := 16) X.x X.b (dk DJ6_numberOfTrailingZeros_0f7a4_0 33 rfl) (by decide) ?_
        refine lv_icmp_le (tgt := 62) X.x X.b (dk DJ6_numberOfTrailingZeros_0f7a4_0 34 rfl) (by decide) (fun c6 => ?_) (fun c6 => ?_)
        · replace hF := if_t hF c6
          refine lv_iload_n X.x X.b (dk DJ6_numberOfTrailingZeros_0f7a4_0 40 rfl) rfl (lv_at hl 0 rfl) ?_
          refine lv_iconst (v := 4) X.x X.b (dk DJ6_numberOfTrailingZeros_0f7a4_0 41 rfl) (by decide) ?_
          refine lv_icmp_le (tgt := 74) X.x X.b (dk DJ6_numberOfTrailingZeros_0f7a4_0 42 rfl) (by decide) (fun c7 => ?_) (fun c7 => ?_)
          · replace hF := if_t hF c7
            refine lv_iload_n X.x X.b (dk DJ6_numberOfTrailingZeros_0f7a4_0 48 rfl) rfl (lv_at hl 1 rfl) ?_
            refine lv_iload_n X.x X.b (dk DJ6_numberOfTrailingZeros_0f7a4_0 49 rfl) rfl (lv_at hl 0 rfl) ?_
            refine lv_iconst (v := 1) X.x X.b (dk DJ6_numberOfTrailingZeros_0f7a4_0 50 rfl) (by decide) ?_
            refine lv_iushr X.x X.b (dk DJ6_numberOfTrailingZeros_0f7a4_0 51 rfl) rfl ?_
            refine lv_iadd X.x X.b (dk DJ6_numberOfTrailingZeros_0f7a4_0 52 rfl) ?_
            cases sm hF
            exact mr_iret X hr hlk hH ⟨rfl, rfl⟩ (dk DJ6_numberOfTrailingZeros_0f7a4_0 53 rfl)
          · replace hF := if_f hF c7
            obtain ⟨v8, e9⟩ : ∃ y : Int32, y = 1 + 2 := ⟨_, rfl⟩
            replace hF := bnd_e hF e9
            refine lv_iinc (v := v8) (lv' := [(1, .int v8), (0, .int v1)]) X.x X.b (dk DJ6_numberOfTrailingZeros_0f7a4_0 43 rfl) hl (k := 1) rfl (by rw [e9]; rfl) (by decide) rfl (fun ls hl => ?_)
            replace hl : lv_has ls 2 [(0, .int v1), (1, .int v8)] := lv_sub hl [1, 0] rfl
            refine lv_iload_n X.x X.b (dk DJ6_numberOfTrailingZeros_0f7a4_0 44 rfl) rfl (lv_at hl 0 rfl) ?_
            refine lv_iconst (v := 2) X.x X.b (dk DJ6_numberOfTrailingZeros_0f7a4_0 45 rfl) (by decide) ?_
            refine lv_iushr X.x X.b (dk DJ6_numberOfTrailingZeros_0f7a4_0 46 rfl) rfl ?_
            refine lv_topi (fun v10 e11 => ?_)
            replace hF := bnd_e hF e11
            refine lv_istore_n (lv' := [(0, .int v10), (1, .int v8)]) X.x X.b (dk DJ6_numberOfTrailingZeros_0f7a4_0 47 rfl) rfl hl (by decide) rfl (fun ls hl => ?_)
            replace hl : lv_has ls 2 [(0, .int v10), (1, .int v8)] := lv_sub hl [0, 1] rfl
            refine lv_iload_n X.x X.b (dk DJ6_numberOfTrailingZeros_0f7a4_0 48 rfl) rfl (lv_at hl 1 rfl) ?_
            refine lv_iload_n X.x X.b (dk DJ6_numberOfTrailingZeros_0f7a4_0 49 rfl) rfl (lv_at hl 0 rfl) ?_
            refine lv_iconst (v := 1) X.x X.b (dk DJ6_numberOfTrailingZeros_0f7a4_0 50 rfl) (by decide) ?_
            refine lv_iushr X.x X.b (dk DJ6_numberOfTrailingZeros_0f7a4_0 51 rfl) rfl ?_
            refine lv_iadd X.x X.b (dk DJ6_numberOfTrailingZeros_0f7a4_0 52 rfl) ?_
            cases sm hF
            exact mr_iret X hr hlk hH ⟨rfl, rfl⟩ (dk DJ6_numberOfTrailingZeros_0f7a4_0 53 rfl)
        · replace hF := if_f hF c6
          obtain ⟨v12, e13⟩ : ∃ y : Int32, y = 1 + 4 := ⟨_, rfl⟩
          replace hF := bnd_e hF e13
          refine lv_iinc (v := v12) (lv' := [(1, .int v12), (0, .int v1)]) X.x X.b (dk DJ6_numberOfTrailingZeros_0f7a4_0 35 rfl) hl (k := 1) rfl (by rw [e13]; rfl) (by decide) rfl (fun ls hl => ?_)
          replace hl : lv_has ls 2 [(0, .int v1), (1, .int v12)] := lv_sub hl [1, 0] rfl
          refine lv_iload_n X.x X.b (dk DJ6_numberOfTrailingZeros_0f7a4_0 36 rfl) rfl (lv_at hl 0 rfl) ?_
          refine lv_iconst (v := 4) X.x X.b (dk DJ6_numberOfTrailingZeros_0f7a4_0 37 rfl) (by decide) ?_
          refine lv_iushr X.x X.b (dk DJ6_numberOfTrailingZeros_0f7a4_0 38 rfl) rfl ?_
          refine lv_topi (fun v14 e15 => ?_)
          replace hF := bnd_e hF e15
          refine lv_istore_n (lv' := [(0, .int v14), (1, .int v12)]) X.x X.b (dk DJ6_numberOfTrailingZeros_0f7a4_0 39 rfl) rfl hl (by decide) rfl (fun ls hl => ?_)
          replace hl : lv_has ls 2 [(0, .int v14), (1, .int v12)] := lv_sub hl [0, 1] rfl
          refine lv_iload_n X.x X.b (dk DJ6_numberOfTrailingZeros_0f7a4_0 40 rfl) rfl (lv_at hl 0 rfl) ?_
          refine lv_iconst (v := 4) X.x X.b (dk DJ6_numberOfTrailingZeros_0f7a4_0 41 rfl) (by decide) ?_
          refine lv_icmp_le (tgt := 74) X.x X.b (dk DJ6_numberOfTrailingZeros_0f7a4_0 42 rfl) (by decide) (fun c16 => ?_) (fun c16 => ?_)
          · replace hF := if_t hF c16
            refine lv_iload_n X.x X.b (dk DJ6_numberOfTrailingZeros_0f7a4_0 48 rfl) rfl (lv_at hl 1 rfl) ?_
            refine lv_iload_n X.x X.b (dk DJ6_numberOfTrailingZeros_0f7a4_0 49 rfl) rfl (lv_at hl 0 rfl) ?_
            refine lv_iconst (v := 1) X.x X.b (dk DJ6_numberOfTrailingZeros_0f7a4_0 50 rfl) (by decide) ?_
            refine lv_iushr X.x X.b (dk DJ6_numberOfTrailingZeros_0f7a4_0 51 rfl) rfl ?_
            refine lv_iadd X.x X.b (dk DJ6_numberOfTrailingZeros_0f7a4_0 52 rfl) ?_
            cases sm hF
            exact mr_iret X hr hlk hH ⟨rfl, rfl⟩ (dk DJ6_numberOfTrailingZeros_0f7a4_0 53 rfl)
          · replace hF := if_f hF c16
            obtain ⟨v17, e18⟩ : ∃ y : Int32, y = v12 + 2 := ⟨_, rfl⟩
            replace hF := bnd_e hF e18
            refine lv_iinc (v := v17) (lv' := [(1, .int v17), (0, .int v14)]) X.x X.b (dk DJ6_numberOfTrailingZeros_0f7a4_0 43 rfl) hl (k := 1) rfl (by rw [e18]; rfl) (by decide) rfl (fun ls hl => ?_)
            replace hl : lv_has ls 2 [(0, .int v14), (1, .int v17)] := lv_sub hl [1, 0] rfl
            refine lv_iload_n X.x X.b (dk DJ6_numberOfTrailingZeros_0f7a4_0 44 rfl) rfl (lv_at hl 0 rfl) ?_
            refine lv_iconst (v := 2) X.x X.b (dk DJ6_numberOfTrailingZeros_0f7a4_0 45 rfl) (by decide) ?_
            refine lv_iushr X.x X.b (dk DJ6_numberOfTrailingZeros_0f7a4_0 46 rfl) rfl ?_
            refine lv_topi (fun v19 e20 => ?_)
            replace hF := bnd_e hF e20
            refine lv_istore_n (lv' := [(0, .int v19), (1, .int v17)]) X.x X.b (dk DJ6_numberOfTrailingZeros_0f7a4_0 47 rfl) rfl hl (by decide) rfl (fun ls hl => ?_)
            replace hl : lv_has ls 2 [(0, .int v19), (1, .int v17)] := lv_sub hl [0, 1] rfl
            refine lv_iload_n X.x X.b (dk DJ6_numberOfTrailingZeros_0f7a4_0 48 rfl) rfl (lv_at hl 1 rfl) ?_
            refine lv_iload_n X.x X.b (dk DJ6_numberOfTrailingZeros_0f7a4_0 49 rfl) rfl (lv_at hl 0 rfl) ?_
            refine lv_iconst (v := 1) X.x X.b (dk DJ6_numberOfTrailingZeros_0f7a4_0 50 rfl) (by decide) ?_
            refine lv_iushr X.x X.b (dk DJ6_numberOfTrailingZeros_0f7a4_0 51 rfl) rfl ?_
            refine lv_iadd X.x X.b (dk DJ6_numberOfTrailingZeros_0f7a4_0 52 rfl) ?_
            cases sm hF
            exact mr_iret X hr hlk hH ⟨rfl, rfl⟩ (dk DJ6_numberOfTrailingZeros_0f7a4_0 53 rfl)
      · replace hF := if_f hF c5
        obtain ⟨v21, e22⟩ : ∃ y : Int32, y = 1 + 8 := ⟨_, rfl⟩
        replace hF := bnd_e hF e22
        refine lv_iinc (v := v21) (lv' := [(1, .int v21), (0, .int v1)]) X.x X.b (dk DJ6_numberOfTrailingZeros_0f7a4_0 27 rfl) hl (k := 1) rfl (by rw [e22]; rfl) (by decide) rfl (fun ls hl => ?_)
        replace hl : lv_has ls 2 [(0, .int v1), (1, .int v21)] := lv_sub hl [1, 0] rfl
        refine lv_iload_n X.x X.b (dk DJ6_numberOfTrailingZeros_0f7a4_0 28 rfl) rfl (lv_at hl 0 rfl) ?_
        refine lv_bipush (v := 8) X.x X.b (dk DJ6_numberOfTrailingZeros_0f7a4_0 29 rfl) (by decide) ?_
        refine lv_iushr X.x X.b (dk DJ6_numberOfTrailingZeros_0f7a4_0 30 rfl) rfl ?_
        refine lv_topi (fun v23 e24 => ?_)
        replace hF := bnd_e hF e24
        refine lv_istore_n (lv' := [(0, .int v23), (1, .int v21)]) X.x X.b (dk DJ6_numberOfTrailingZeros_0f7a4_0 31 rfl) rfl hl (by decide) rfl (fun ls hl => ?_)
        replace hl : lv_has ls 2 [(0, .int v23), (1, .int v21)] := lv_sub hl [0, 1] rfl
        refine lv_iload_n X.x X.b (dk DJ6_numberOfTrailingZeros_0f7a4_0 32 rfl) rfl (lv_at hl 0 rfl) ?_
        refine lv_bipush (v := 16) X.x X.b (dk DJ6_numberOfTrailingZeros_0f7a4_0 33 rfl) (by decide) ?_
        refine lv_icmp_le (tgt := 62) X.x X.b (dk DJ6_numberOfTrailingZeros_0f7a4_0 34 rfl) (by decide) (fun c25 => ?_) (fun c25 => ?_)
        · replace hF := if_t hF c25
          refine lv_iload_n X.x X.b (dk DJ6_numberOfTrailingZeros_0f7a4_0 40 rfl) rfl (lv_at hl 0 rfl) ?_
          refine lv_iconst (v := 4) X.x X.b (dk DJ6_numberOfTrailingZeros_0f7a4_0 41 rfl) (by decide) ?_
          refine lv_icmp_le (tgt := 74) X.x X.b (dk DJ6_numberOfTrailingZeros_0f7a4_0 42 rfl) (by decide) (fun c26 => ?_) (fun c26 => ?_)
          · replace hF := if_t hF c26
            refine lv_iload_n X.x X.b (dk DJ6_numberOfTrailingZeros_0f7a4_0 48 rfl) rfl (lv_at hl 1 rfl) ?_
            refine lv_iload_n X.x X.b (dk DJ6_numberOfTrailingZeros_0f7a4_0 49 rfl) rfl (lv_at hl 0 rfl) ?_
            refine lv_iconst (v := 1) X.x X.b (dk DJ6_numberOfTrailingZeros_0f7a4_0 50 rfl) (by decide) ?_
            refine lv_iushr X.x X.b (dk DJ6_numberOfTrailingZeros_0f7a4_0 51 rfl) rfl ?_
            refine lv_iadd X.x X.b (dk DJ6_numberOfTrailingZeros_0f7a4_0 52 rfl) ?_
            cases sm hF
            exact mr_iret X hr hlk hH ⟨rfl, rfl⟩ (dk DJ6_numberOfTrailingZeros_0f7a4_0 53 rfl)
          · replace hF := if_f hF c26
            obtain ⟨v27, e28⟩ : ∃ y : Int32, y = v21 + 2 := ⟨_, rfl⟩
            replace hF := bnd_e hF e28
            refine lv_iinc (v := v27) (lv' := [(1, .int v27), (0, .int v23)]) X.x X.b (dk DJ6_numberOfTrailingZeros_0f7a4_0 43 rfl) hl (k := 1) rfl (by rw [e28]; rfl) (by decide) rfl (fun ls hl => ?_)
            replace hl : lv_has ls 2 [(0, .int v23), (1, .int v27)] := lv_sub hl [1, 0] rfl
            refine lv_iload_n X.x X.b (dk DJ6_numberOfTrailingZeros_0f7a4_0 44 rfl) rfl (lv_at hl 0 rfl) ?_
            refine lv_iconst (v := 2) X.x X.b (dk DJ6_numberOfTrailingZeros_0f7a4_0 45 rfl) (by decide) ?_
            refine lv_iushr X.x X.b (dk DJ6_numberOfTrailingZeros_0f7a4_0 46 rfl) rfl ?_
            refine lv_topi (fun v29 e30 => ?_)
            replace hF := bnd_e hF e30
            refine lv_istore_n (lv' := [(0, .int v29), (1, .int v27)]) X.x X.b (dk DJ6_numberOfTrailingZeros_0f7a4_0 47 rfl) rfl hl (by decide) rfl (fun ls hl => ?_)
            replace hl : lv_has ls 2 [(0, .int v29), (1, .int v27)] := lv_sub hl [0, 1] rfl
            refine lv_iload_n X.x X.b (dk DJ6_numberOfTrailingZeros_0f7a4_0 48 rfl) rfl (lv_at hl 1 rfl) ?_
            refine lv_iload_n X.x X.b (dk DJ6_numberOfTrailingZeros_0f7a4_0 49 rfl) rfl (lv_at hl 0 rfl) ?_
            refine lv_iconst (v := 1) X.x X.b (dk DJ6_numberOfTrailingZeros_0f7a4_0 50 rfl) (by decide) ?_
            refine lv_iushr X.x X.b (dk DJ6_numberOfTrailingZeros_0f7a4_0 51 rfl) rfl ?_
            refine lv_iadd X.x X.b (dk DJ6_numberOfTrailingZeros_0f7a4_0 52 rfl) ?_
            cases sm hF
            exact mr_iret X hr hlk hH ⟨rfl, rfl⟩ (dk DJ6_numberOfTrailingZeros_0f7a4_0 53 rfl)
        · replace hF := if_f hF c25
          obtain ⟨v31, e32⟩ : ∃ y : Int32, y = v21 + 4 := ⟨_, rfl⟩
          replace hF := bnd_e hF e32
          refine lv_iinc (v := v31) (lv' := [(1, .int v31), (0, .int v23)]) X.x X.b (dk DJ6_numberOfTrailingZeros_0f7a4_0 35 rfl) hl (k := 1) rfl (by rw [e32]; rfl) (by decide) rfl (fun ls hl => ?_)
          replace hl : lv_has ls 2 [(0, .int v23), (1, .int v31)] := lv_sub hl [1, 0] rfl
          refine lv_iload_n X.x X.b (dk DJ6_numberOfTrailingZeros_0f7a4_0 36 rfl) rfl (lv_at hl 0 rfl) ?_
          refine lv_iconst (v := 4) X.x X.b (dk DJ6_numberOfTrailingZeros_0f7a4_0 37 rfl) (by decide) ?_
          refine lv_iushr X.x X.b (dk DJ6_numberOfTrailingZeros_0f7a4_0 38 rfl) rfl ?_
          refine lv_topi (fun v33 e34 => ?_)
          replace hF := bnd_e hF e34
          refine lv_istore_n (lv' := [(0, .int v33), (1, .int v31)]) X.x X.b (dk DJ6_numberOfTrailingZeros_0f7a4_0 39 rfl) rfl hl (by decide) rfl (fun ls hl => ?_)
          replace hl : lv_has ls 2 [(0, .int v33), (1, .int v31)] := lv_sub hl [0, 1] rfl
          refine lv_iload_n X.x X.b (dk DJ6_numberOfTrailingZeros_0f7a4_0 40 rfl) rfl (lv_at hl 0 rfl) ?_
          refine lv_iconst (v := 4) X.x X.b (dk DJ6_numberOfTrailingZeros_0f7a4_0 41 rfl) (by decide) ?_
          refine lv_icmp_le (tgt := 74) X.x X.b (dk DJ6_numberOfTrailingZeros_0f7a4_0 42 rfl) (by decide) (fun c35 => ?_) (fun c35 => ?_)
          · replace hF := if_t hF c35
            refine lv_iload_n X.x X.b (dk DJ6_numberOfTrailingZeros_0f7a4_0 48 rfl) rfl (lv_at hl 1 rfl) ?_
            refine lv_iload_n X.x X.b (dk DJ6_numberOfTrailingZeros_0f7a4_0 49 rfl) rfl (lv_at hl 0 rfl) ?_
            refine lv_iconst (v := 1) X.x X.b (dk DJ6_numberOfTrailingZeros_0f7a4_0 50 rfl) (by decide) ?_
            refine lv_iushr X.x X.b (dk DJ6_numberOfTrailingZeros_0f7a4_0 51 rfl) rfl ?_
            refine lv_iadd X.x X.b (dk DJ6_numberOfTrailingZeros_0f7a4_0 52 rfl) ?_
            cases sm hF
            exact mr_iret X hr hlk hH ⟨rfl, rfl⟩ (dk DJ6_numberOfTrailingZeros_0f7a4_0 53 rfl)
          · replace hF := if_f hF c35
            obtain ⟨v36, e37⟩ : ∃ y : Int32, y = v31 + 2 := ⟨_, rfl⟩
            replace hF := bnd_e hF e37
            refine lv_iinc (v := v36) (lv' := [(1, .int v36), (0, .int v33)]) X.x X.b (dk DJ6_numberOfTrailingZeros_0f7a4_0 43 rfl) hl (k := 1) rfl (by rw [e37]; rfl) (by decide) rfl (fun ls hl => ?_)
            replace hl : lv_has ls 2 [(0, .int v33), (1, .int v36)] := lv_sub hl [1, 0] rfl
            refine lv_iload_n X.x X.b (dk DJ6_numberOfTrailingZeros_0f7a4_0 44 rfl) rfl (lv_at hl 0 rfl) ?_
            refine lv_iconst (v := 2) X.x X.b (dk DJ6_numberOfTrailingZeros_0f7a4_0 45 rfl) (by decide) ?_
            refine lv_iushr X.x X.b (dk DJ6_numberOfTrailingZeros_0f7a4_0 46 rfl) rfl ?_
            refine lv_topi (fun v38 e39 => ?_)
            replace hF := bnd_e hF e39
            refine lv_istore_n (lv' := [(0, .int v38), (1, .int v36)]) X.x X.b (dk DJ6_numberOfTrailingZeros_0f7a4_0 47 rfl) rfl hl (by decide) rfl (fun ls hl => ?_)
            replace hl : lv_has ls 2 [(0, .int v38), (1, .int v36)] := lv_sub hl [0, 1] rfl
            refine lv_iload_n X.x X.b (dk DJ6_numberOfTrailingZeros_0f7a4_0 48 rfl) rfl (lv_at hl 1 rfl) ?_
            refine lv_iload_n X.x X.b (dk DJ6_numberOfTrailingZeros_0f7a4_0 49 rfl) rfl (lv_at hl 0 rfl) ?_
            refine lv_iconst (v := 1) X.x X.b (dk DJ6_numberOfTrailingZeros_0f7a4_0 50 rfl) (by decide) ?_
            refine lv_iushr X.x X.b (dk DJ6_numberOfTrailingZeros_0f7a4_0 51 rfl) rfl ?_
            refine lv_iadd X.x X.b (dk DJ6_numberOfTrailingZeros_0f7a4_0 52 rfl) ?_
            cases sm hF
            exact mr_iret X hr hlk hH ⟨rfl, rfl⟩ (dk DJ6_numberOfTrailingZeros_0f7a4_0 53 rfl)
    · replace hF := if_f hF c4
      obtain ⟨v40, e41⟩ : ∃ y : Int32, y = 1 + 16 := ⟨_, rfl⟩
      replace hF := bnd_e hF e41
      refine lv_iinc (v := v40) (lv' := [(1, .int v40), (0, .int v1)]) X.x X.b (dk DJ6_numberOfTrailingZeros_0f7a4_0 19 rfl) hl (k := 1) rfl (by rw [e41]; rfl) (by decide) rfl (fun ls hl => ?_)
      replace hl : lv_has ls 2 [(0, .int v1), (1, .int v40)] := lv_sub hl [1, 0] rfl
      refine lv_iload_n X.x X.b (dk DJ6_numberOfTrailingZeros_0f7a4_0 20 rfl) rfl (lv_at hl 0 rfl) ?_
      refine lv_bipush (v := 16) X.x X.b (dk DJ6_numberOfTrailingZeros_0f7a4_0 21 rfl) (by decide) ?_
      refine lv_iushr X.x X.b (dk DJ6_numberOfTrailingZeros_0f7a4_0 22 rfl) rfl ?_
      refine lv_topi (fun v42 e43 => ?_)
      replace hF := bnd_e hF e43
      refine lv_istore_n (lv' := [(0, .int v42), (1, .int v40)]) X.x X.b (dk DJ6_numberOfTrailingZeros_0f7a4_0 23 rfl) rfl hl (by decide) rfl (fun ls hl => ?_)
      replace hl : lv_has ls 2 [(0, .int v42), (1, .int v40)] := lv_sub hl [0, 1] rfl
      refine lv_iload_n X.x X.b (dk DJ6_numberOfTrailingZeros_0f7a4_0 24 rfl) rfl (lv_at hl 0 rfl) ?_
      refine lv_sipush (v := 256) X.x X.b (dk DJ6_numberOfTrailingZeros_0f7a4_0 25 rfl) (by decide) ?_
      refine lv_icmp_le (tgt := 49) X.x X.b (dk DJ6_numberOfTrailingZeros_0f7a4_0 26 rfl) (by decide) (fun c44 => ?_) (fun c44 => ?_)
      · replace hF := if_t hF c44
        refine lv_iload_n X.x X.b (dk DJ6_numberOfTrailingZeros_0f7a4_0 32 rfl) rfl (lv_at hl 0 rfl) ?_
        refine lv_bipush (v := 16) X.x X.b (dk DJ6_numberOfTrailingZeros_0f7a4_0 33 rfl) (by decide) ?_
        refine lv_icmp_le (tgt := 62) X.x X.b (dk DJ6_numberOfTrailingZeros_0f7a4_0 34 rfl) (by decide) (fun c45 => ?_) (fun c45 => ?_)
        · replace hF := if_t hF c45
          refine lv_iload_n X.x X.b (dk DJ6_numberOfTrailingZeros_0f7a4_0 40 rfl) rfl (lv_at hl 0 rfl) ?_
          refine lv_iconst (v := 4) X.x X.b (dk DJ6_numberOfTrailingZeros_0f7a4_0 41 rfl) (by decide) ?_
          refine lv_icmp_le (tgt := 74) X.x X.b (dk DJ6_numberOfTrailingZeros_0f7a4_0 42 rfl) (by decide) (fun c46 => ?_) (fun c46 => ?_)
          · replace hF := if_t hF c46
            refine lv_iload_n X.x X.b (dk DJ6_numberOfTrailingZeros_0f7a4_0 48 rfl) rfl (lv_at hl 1 rfl) ?_
            refine lv_iload_n X.x X.b (dk DJ6_numberOfTrailingZeros_0f7a4_0 49 rfl) rfl (lv_at hl 0 rfl) ?_
            refine lv_iconst (v := 1) X.x X.b (dk DJ6_numberOfTrailingZeros_0f7a4_0 50 rfl) (by decide) ?_
            refine lv_iushr X.x X.b (dk DJ6_numberOfTrailingZeros_0f7a4_0 51 rfl) rfl ?_
            refine lv_iadd X.x X.b (dk DJ6_numberOfTrailingZeros_0f7a4_0 52 rfl) ?_
            cases sm hF
            exact mr_iret X hr hlk hH ⟨rfl, rfl⟩ (dk DJ6_numberOfTrailingZeros_0f7a4_0 53 rfl)
          · replace hF := if_f hF c46
            obtain ⟨v47, e48⟩ : ∃ y : Int32, y = v40 + 2 := ⟨_, rfl⟩
            replace hF := bnd_e hF e48
            refine lv_iinc (v := v47) (lv' := [(1, .int v47), (0, .int v42)]) X.x X.b (dk DJ6_numberOfTrailingZeros_0f7a4_0 43 rfl) hl (k := 1) rfl (by rw [e48]; rfl) (by decide) rfl (fun ls hl => ?_)
            replace hl : lv_has ls 2 [(0, .int v42), (1, .int v47)] := lv_sub hl [1, 0] rfl
            refine lv_iload_n X.x X.b (dk DJ6_numberOfTrailingZeros_0f7a4_0 44 rfl) rfl (lv_at hl 0 rfl) ?_
            refine lv_iconst (v := 2) X.x X.b (dk DJ6_numberOfTrailingZeros_0f7a4_0 45 rfl) (by decide) ?_
            refine lv_iushr X.x X.b (dk DJ6_numberOfTrailingZeros_0f7a4_0 46 rfl) rfl ?_
            refine lv_topi (fun v49 e50 => ?_)
            replace hF := bnd_e hF e50
            refine lv_istore_n (lv' := [(0, .int v49), (1, .int v47)]) X.x X.b (dk DJ6_numberOfTrailingZeros_0f7a4_0 47 rfl) rfl hl (by decide) rfl (fun ls hl => ?_)
            replace hl : lv_has ls 2 [(0, .int v49), (1, .int v47)] := lv_sub hl [0, 1] rfl
            refine lv_iload_n X.x X.b (dk DJ6_numberOfTrailingZeros_0f7a4_0 48 rfl) rfl (lv_at hl 1 rfl) ?_
            refine lv_iload_n X.x X.b (dk DJ6_numberOfTrailingZeros_0f7a4_0 49 rfl) rfl (lv_at hl 0 rfl) ?_
            refine lv_iconst (v := 1) X.x X.b (dk DJ6_numberOfTrailingZeros_0f7a4_0 50 rfl) (by decide) ?_
            refine lv_iushr X.x X.b (dk DJ6_numberOfTrailingZeros_0f7a4_0 51 rfl) rfl ?_
            refine lv_iadd X.x X.b (dk DJ6_numberOfTrailingZeros_0f7a4_0 52 rfl) ?_
            cases sm hF
            exact mr_iret X hr hlk hH ⟨rfl, rfl⟩ (dk DJ6_numberOfTrailingZeros_0f7a4_0 53 rfl)
        · replace hF := if_f hF c45
          obtain ⟨v51, e52⟩ : ∃ y : Int32, y = v40 + 4 := ⟨_, rfl⟩
          replace hF := bnd_e hF e52
          refine lv_iinc (v := v51) (lv' := [(1, .int v51), (0, .int v42)]) X.x X.b (dk DJ6_numberOfTrailingZeros_0f7a4_0 35 rfl) hl (k := 1) rfl (by rw [e52]; rfl) (by decide) rfl (fun ls hl => ?_)
          replace hl : lv_has ls 2 [(0, .int v42), (1, .int v51)] := lv_sub hl [1, 0] rfl
          refine lv_iload_n X.x X.b (dk DJ6_numberOfTrailingZeros_0f7a4_0 36 rfl) rfl (lv_at hl 0 rfl) ?_
          refine lv_iconst (v := 4) X.x X.b (dk DJ6_numberOfTrailingZeros_0f7a4_0 37 rfl) (by decide) ?_
          refine lv_iushr X.x X.b (dk DJ6_numberOfTrailingZeros_0f7a4_0 38 rfl) rfl ?_
          refine lv_topi (fun v53 e54 => ?_)
          replace hF := bnd_e hF e54
          refine lv_istore_n (lv' := [(0, .int v53), (1, .int v51)]) X.x X.b (dk DJ6_numberOfTrailingZeros_0f7a4_0 39 rfl) rfl hl (by decide) rfl (fun ls hl => ?_)
          replace hl : lv_has ls 2 [(0, .int v53), (1, .int v51)] := lv_sub hl [0, 1] rfl
          refine lv_iload_n X.x X.b (dk DJ6_numberOfTrailingZeros_0f7a4_0 40 rfl) rfl (lv_at hl 0 rfl) ?_
          refine lv_iconst (v := 4) X.x X.b (dk DJ6_numberOfTrailingZeros_0f7a4_0 41 rfl) (by decide) ?_
          refine lv_icmp_le (tgt := 74) X.x X.b (dk DJ6_numberOfTrailingZeros_0f7a4_0 42 rfl) (by decide) (fun c55 => ?_) (fun c55 => ?_)
          · replace hF := if_t hF c55
            refine lv_iload_n X.x X.b (dk DJ6_numberOfTrailingZeros_0f7a4_0 48 rfl) rfl (lv_at hl 1 rfl) ?_
            refine lv_iload_n X.x X.b (dk DJ6_numberOfTrailingZeros_0f7a4_0 49 rfl) rfl (lv_at hl 0 rfl) ?_
            refine lv_iconst (v := 1) X.x X.b (dk DJ6_numberOfTrailingZeros_0f7a4_0 50 rfl) (by decide) ?_
            refine lv_iushr X.x X.b (dk DJ6_numberOfTrailingZeros_0f7a4_0 51 rfl) rfl ?_
            refine lv_iadd X.x X.b (dk DJ6_numberOfTrailingZeros_0f7a4_0 52 rfl) ?_
            cases sm hF
            exact mr_iret X hr hlk hH ⟨rfl, rfl⟩ (dk DJ6_numberOfTrailingZeros_0f7a4_0 53 rfl)
          · replace hF := if_f hF c55
            obtain ⟨v56, e57⟩ : ∃ y : Int32, y = v51 + 2 := ⟨_, rfl⟩
            replace hF := bnd_e hF e57
            refine lv_iinc (v := v56) (lv' := [(1, .int v56), (0, .int v53)]) X.x X.b (dk DJ6_numberOfTrailingZeros_0f7a4_0 43 rfl) hl (k := 1) rfl (by rw [e57]; rfl) (by decide) rfl (fun ls hl => ?_)
            replace hl : lv_has ls 2 [(0, .int v53), (1, .int v56)] := lv_sub hl [1, 0] rfl
            refine lv_iload_n X.x X.b (dk DJ6_numberOfTrailingZeros_0f7a4_0 44 rfl) rfl (lv_at hl 0 rfl) ?_
            refine lv_iconst (v := 2) X.x X.b (dk DJ6_numberOfTrailingZeros_0f7a4_0 45 rfl) (by decide) ?_
            refine lv_iushr X.x X.b (dk DJ6_numberOfTrailingZeros_0f7a4_0 46 rfl) rfl ?_
            refine lv_topi (fun v58 e59 => ?_)
            replace hF := bnd_e hF e59
            refine lv_istore_n (lv' := [(0, .int v58), (1, .int v56)]) X.x X.b (dk DJ6_numberOfTrailingZeros_0f7a4_0 47 rfl) rfl hl (by decide) rfl (fun ls hl => ?_)
            replace hl : lv_has ls 2 [(0, .int v58), (1, .int v56)] := lv_sub hl [0, 1] rfl
            refine lv_iload_n X.x X.b (dk DJ6_numberOfTrailingZeros_0f7a4_0 48 rfl) rfl (lv_at hl 1 rfl) ?_
            refine lv_iload_n X.x X.b (dk DJ6_numberOfTrailingZeros_0f7a4_0 49 rfl) rfl (lv_at hl 0 rfl) ?_
            refine lv_iconst (v := 1) X.x X.b (dk DJ6_numberOfTrailingZeros_0f7a4_0 50 rfl) (by decide) ?_
            refine lv_iushr X.x X.b (dk DJ6_numberOfTrailingZeros_0f7a4_0 51 rfl) rfl ?_
            refine lv_iadd X.x X.b (dk DJ6_numberOfTrailingZeros_0f7a4_0 52 rfl) ?_
            cases sm hF
            exact mr_iret X hr hlk hH ⟨rfl, rfl⟩ (dk DJ6_numberOfTrailingZeros_0f7a4_0 53 rfl)
      · replace hF := if_f hF c44
        obtain ⟨v60, e61⟩ : ∃ y : Int32, y = v40 + 8 := ⟨_, rfl⟩
        replace hF := bnd_e hF e61
        refine lv_iinc (v := v60) (lv' := [(1, .int v60), (0, .int v42)]) X.x X.b (dk DJ6_numberOfTrailingZeros_0f7a4_0 27 rfl) hl (k := 1) rfl (by rw [e61]; rfl) (by decide) rfl (fun ls hl => ?_)
        replace hl : lv_has ls 2 [(0, .int v42), (1, .int v60)] := lv_sub hl [1, 0] rfl
        refine lv_iload_n X.x X.b (dk DJ6_numberOfTrailingZeros_0f7a4_0 28 rfl) rfl (lv_at hl 0 rfl) ?_
        refine lv_bipush (v := 8) X.x X.b (dk DJ6_numberOfTrailingZeros_0f7a4_0 29 rfl) (by decide) ?_
        refine lv_iushr X.x X.b (dk DJ6_numberOfTrailingZeros_0f7a4_0 30 rfl) rfl ?_
        refine lv_topi (fun v62 e63 => ?_)
        replace hF := bnd_e hF e63
        refine lv_istore_n (lv' := [(0, .int v62), (1, .int v60)]) X.x X.b (dk DJ6_numberOfTrailingZeros_0f7a4_0 31 rfl) rfl hl (by decide) rfl (fun ls hl => ?_)
        replace hl : lv_has ls 2 [(0, .int v62), (1, .int v60)] := lv_sub hl [0, 1] rfl
        refine lv_iload_n X.x X.b (dk DJ6_numberOfTrailingZeros_0f7a4_0 32 rfl) rfl (lv_at hl 0 rfl) ?_
        refine lv_bipush (v := 16) X.x X.b (dk DJ6_numberOfTrailingZeros_0f7a4_0 33 rfl) (by decide) ?_
        refine lv_icmp_le (tgt := 62) X.x X.b (dk DJ6_numberOfTrailingZeros_0f7a4_0 34 rfl) (by decide) (fun c64 => ?_) (fun c64 => ?_)
        · replace hF := if_t hF c64
          refine lv_iload_n X.x X.b (dk DJ6_numberOfTrailingZeros_0f7a4_0 40 rfl) rfl (lv_at hl 0 rfl) ?_
          refine lv_iconst (v := 4) X.x X.b (dk DJ6_numberOfTrailingZeros_0f7a4_0 41 rfl) (by decide) ?_
          refine lv_icmp_le (tgt := 74) X.x X.b (dk DJ6_numberOfTrailingZeros_0f7a4_0 42 rfl) (by decide) (fun c65 => ?_) (fun c65 => ?_)
          · replace hF := if_t hF c65
            refine lv_iload_n X.x X.b (dk DJ6_numberOfTrailingZeros_0f7a4_0 48 rfl) rfl (lv_at hl 1 rfl) ?_
            refine lv_iload_n X.x X.b (dk DJ6_numberOfTrailingZeros_0f7a4_0 49 rfl) rfl (lv_at hl 0 rfl) ?_
            refine lv_iconst (v := 1) X.x X.b (dk DJ6_numberOfTrailingZeros_0f7a4_0 50 rfl) (by decide) ?_
            refine lv_iushr X.x X.b (dk DJ6_numberOfTrailingZeros_0f7a4_0 51 rfl) rfl ?_
            refine lv_iadd X.x X.b (dk DJ6_numberOfTrailingZeros_0f7a4_0 52 rfl) ?_
            cases sm hF
            exact mr_iret X hr hlk hH ⟨rfl, rfl⟩ (dk DJ6_numberOfTrailingZeros_0f7a4_0 53 rfl)
          · replace hF := if_f hF c65
            obtain ⟨v66, e67⟩ : ∃ y : Int32, y = v60 + 2 := ⟨_, rfl⟩
            replace hF := bnd_e hF e67
            refine lv_iinc (v := v66) (lv' := [(1, .int v66), (0, .int v62)]) X.x X.b (dk DJ6_numberOfTrailingZeros_0f7a4_0 43 rfl) hl (k := 1) rfl (by rw [e67]; rfl) (by decide) rfl (fun ls hl => ?_)
            replace hl : lv_has ls 2 [(0, .int v62), (1, .int v66)] := lv_sub hl [1, 0] rfl
            refine lv_iload_n X.x X.b (dk DJ6_numberOfTrailingZeros_0f7a4_0 44 rfl) rfl (lv_at hl 0 rfl) ?_
            refine lv_iconst (v := 2) X.x X.b (dk DJ6_numberOfTrailingZeros_0f7a4_0 45 rfl) (by decide) ?_
            refine lv_iushr X.x X.b (dk DJ6_numberOfTrailingZeros_0f7a4_0 46 rfl) rfl ?_
            refine lv_topi (fun v68 e69 => ?_)
            replace hF := bnd_e hF e69
            refine lv_istore_n (lv' := [(0, .int v68), (1, .int v66)]) X.x X.b (dk DJ6_numberOfTrailingZeros_0f7a4_0 47 rfl) rfl hl (by decide) rfl (fun ls hl => ?_)
            replace hl : lv_has ls 2 [(0, .int v68), (1, .int v66)] := lv_sub hl [0, 1] rfl
            refine lv_iload_n X.x X.b (dk DJ6_numberOfTrailingZeros_0f7a4_0 48 rfl) rfl (lv_at hl 1 rfl) ?_
            refine lv_iload_n X.x X.b (dk DJ6_numberOfTrailingZeros_0f7a4_0 49 rfl) rfl (lv_at hl 0 rfl) ?_
            refine lv_iconst (v := 1) X.x X.b (dk DJ6_numberOfTrailingZeros_0f7a4_0 50 rfl) (by decide) ?_
            refine lv_iushr X.x X.b (dk DJ6_numberOfTrailingZeros_0f7a4_0 51 rfl) rfl ?_
            refine lv_iadd X.x X.b (dk DJ6_numberOfTrailingZeros_0f7a4_0 52 rfl) ?_
            cases sm hF
            exact mr_iret X hr hlk hH ⟨rfl, rfl⟩ (dk DJ6_numberOfTrailingZeros_0f7a4_0 53 rfl)
        · replace hF := if_f hF c64
          obtain ⟨v70, e71⟩ : ∃ y : Int32, y = v60 + 4 := ⟨_, rfl⟩
          replace hF := bnd_e hF e71
          refine lv_iinc (v := v70) (lv' := [(1, .int v70), (0, .int v62)]) X.x X.b (dk DJ6_numberOfTrailingZeros_0f7a4_0 35 rfl) hl (k := 1) rfl (by rw [e71]; rfl) (by decide) rfl (fun ls hl => ?_)
          replace hl : lv_has ls 2 [(0, .int v62), (1, .int v70)] := lv_sub hl [1, 0] rfl
          refine lv_iload_n X.x X.b (dk DJ6_numberOfTrailingZeros_0f7a4_0 36 rfl) rfl (lv_at hl 0 rfl) ?_
          refine lv_iconst (v := 4) X.x X.b (dk DJ6_numberOfTrailingZeros_0f7a4_0 37 rfl) (by decide) ?_
          refine lv_iushr X.x X.b (dk DJ6_numberOfTrailingZeros_0f7a4_0 38 rfl) rfl ?_
          refine lv_topi (fun v72 e73 => ?_)
          replace hF := bnd_e hF e73
          refine lv_istore_n (lv' := [(0, .int v72), (1, .int v70)]) X.x X.b (dk DJ6_numberOfTrailingZeros_0f7a4_0 39 rfl) rfl hl (by decide) rfl (fun ls hl => ?_)
          replace hl : lv_has ls 2 [(0, .int v72), (1, .int v70)] := lv_sub hl [0, 1] rfl
          refine lv_iload_n X.x X.b (dk DJ6_numberOfTrailingZeros_0f7a4_0 40 rfl) rfl (lv_at hl 0 rfl) ?_
          refine lv_iconst (v := 4) X.x X.b (dk DJ6_numberOfTrailingZeros_0f7a4_0 41 rfl) (by decide) ?_
          refine lv_icmp_le (tgt := 74) X.x X.b (dk DJ6_numberOfTrailingZeros_0f7a4_0 42 rfl) (by decide) (fun c74 => ?_) (fun c74 => ?_)
          · replace hF := if_t hF c74
            refine lv_iload_n X.x X.b (dk DJ6_numberOfTrailingZeros_0f7a4_0 48 rfl) rfl (lv_at hl 1 rfl) ?_
            refine lv_iload_n X.x X.b (dk DJ6_numberOfTrailingZeros_0f7a4_0 49 rfl) rfl (lv_at hl 0 rfl) ?_
            refine lv_iconst (v := 1) X.x X.b (dk DJ6_numberOfTrailingZeros_0f7a4_0 50 rfl) (by decide) ?_
            refine lv_iushr X.x X.b (dk DJ6_numberOfTrailingZeros_0f7a4_0 51 rfl) rfl ?_
            refine lv_iadd X.x X.b (dk DJ6_numberOfTrailingZeros_0f7a4_0 52 rfl) ?_
            cases sm hF
            exact mr_iret X hr hlk hH ⟨rfl, rfl⟩ (dk DJ6_numberOfTrailingZeros_0f7a4_0 53 rfl)
          · replace hF := if_f hF c74
            obtain ⟨v75, e76⟩ : ∃ y : Int32, y = v70 + 2 := ⟨_, rfl⟩
            replace hF := bnd_e hF e76
            refine lv_iinc (v := v75) (lv' := [(1, .int v75), (0, .int v72)]) X.x X.b (dk DJ6_numberOfTrailingZeros_0f7a4_0 43 rfl) hl (k := 1) rfl (by rw [e76]; rfl) (by decide) rfl (fun ls hl => ?_)
            replace hl : lv_has ls 2 [(0, .int v72), (1, .int v75)] := lv_sub hl [1, 0] rfl
            refine lv_iload_n X.x X.b (dk DJ6_numberOfTrailingZeros_0f7a4_0 44 rfl) rfl (lv_at hl 0 rfl) ?_
            refine lv_iconst (v := 2) X.x X.b (dk DJ6_numberOfTrailingZeros_0f7a4_0 45 rfl) (by decide) ?_
            refine lv_iushr X.x X.b (dk DJ6_numberOfTrailingZeros_0f7a4_0 46 rfl) rfl ?_
            refine lv_topi (fun v77 e78 => ?_)
            replace hF := bnd_e hF e78
            refine lv_istore_n (lv' := [(0, .int v77), (1, .int v75)]) X.x X.b (dk DJ6_numberOfTrailingZeros_0f7a4_0 47 rfl) rfl hl (by decide) rfl (fun ls hl => ?_)
            replace hl : lv_has ls 2 [(0, .int v77), (1, .int v75)] := lv_sub hl [0, 1] rfl
            refine lv_iload_n X.x X.b (dk DJ6_numberOfTrailingZeros_0f7a4_0 48 rfl) rfl (lv_at hl 1 rfl) ?_
            refine lv_iload_n X.x X.b (dk DJ6_numberOfTrailingZeros_0f7a4_0 49 rfl) rfl (lv_at hl 0 rfl) ?_
            refine lv_iconst (v := 1) X.x X.b (dk DJ6_numberOfTrailingZeros_0f7a4_0 50 rfl) (by decide) ?_
            refine lv_iushr X.x X.b (dk DJ6_numberOfTrailingZeros_0f7a4_0 51 rfl) rfl ?_
            refine lv_iadd X.x X.b (dk DJ6_numberOfTrailingZeros_0f7a4_0 52 rfl) ?_
            cases sm hF
            exact mr_iret X hr hlk hH ⟨rfl, rfl⟩ (dk DJ6_numberOfTrailingZeros_0f7a4_0 53 rfl)
  · replace hF := if_f hF c3
    refine lv_iload_n X.x X.b (dk DJ6_numberOfTrailingZeros_0f7a4_0 10 rfl) rfl (lv_at hl 0 rfl) ?_
    refine lv_bipush (v := 32) X.x X.b (dk DJ6_numberOfTrailingZeros_0f7a4_0 11 rfl) (by decide) ?_
    refine lv_iand X.x X.b (dk DJ6_numberOfTrailingZeros_0f7a4_0 12 rfl) ?_
    cases sm hF
    exact mr_iret X hr hlk hH ⟨rfl, rfl⟩ (dk DJ6_numberOfTrailingZeros_0f7a4_0 13 rfl)
-- J13_numberOfTrailingZeros_95d88
abbrev rm_J13_numberOfTrailingZeros_95d88 : Room := { frames := 1, cells := 0, slots := 0, locals := 21 }
theorem hd_J13_numberOfTrailingZeros_95d88 : mHd yJ13_numberOfTrailingZeros_95d88 1 := ⟨by decide +kernel, by decide +kernel, by decide +kernel⟩
theorem DJ13_numberOfTrailingZeros_95d88_0 : ∀ t ∈ ([(0, .lload_n 0, 1), (1, .l2i, 1), (2, .istore_n 2, 1), (3, .iload_n 2, 1), (4, .ifCond .ne 17, 3), (7, .bipush 32, 2), (9, .lload_n 0, 1), (10, .bipush 32, 2), (12, .lushr, 1), (13, .l2i, 1), (14, .invokestatic 311, 3), (17, .iadd, 1), (18, .goto 7, 3), (21, .iload_n 2, 1), (22, .invokestatic 311, 3), (25, .ireturn, 1)] : List (Nat × Instr × Nat)), decode cJ13_numberOfTrailingZeros_95d88 t.1 = .ok (t.2.1, t.2.2) := by decide +kernel
noncomputable def f_J13_numberOfTrailingZeros_95d88 (a0 : Int64) : Option (Int32) := bnd ((a0 : Int64).toInt32 : Int32) (fun v1 => (if v1 = 0 then (f_J6_numberOfTrailingZeros_0f7a4 ((((a0 : Int64).toUInt64 >>> ((32 : Int32).toInt64.toUInt64 &&& Int64.toUInt64 63)).toInt64 : Int64).toInt32)).bind (fun x7 => some ((32 : Int32) + x7)) else (f_J6_numberOfTrailingZeros_0f7a4 v1).bind (fun x4 => some x4)))
set_option maxHeartbeats 4000000 in
set_option maxRecDepth 100000 in
theorem c_J13_numberOfTrailingZeros_95d88 {l : Launch} {G : mG} {h : mM}  {a0 : Int64} {x : Int32} (hF : f_J13_numberOfTrailingZeros_95d88 a0 = some x) : cQ l G yJ13_numberOfTrailingZeros_95d88 cJ13_numberOfTrailingZeros_95d88 3 (some FieldType.int) rm_J13_numberOfTrailingZeros_95d88 [.long a0] (h) (mQi G (fun r h1 => r = x ∧ h1 = h)) := by
  refine mp_of (by decide +kernel) (Nat.le_of_ble_eq_true rfl) ?_
  intro p e s m below meth c X hr hlk hH hname ls hl
  dsimp only [f_J13_numberOfTrailingZeros_95d88] at hF
  replace hl : lv_has ls 3 [(0, .long a0)] := hl
  refine lv_lload_n X.x X.b (dk DJ13_numberOfTrailingZeros_95d88_0 0 rfl) rfl (lv_at hl 0 rfl) ?_
  refine lv_l2i X.x X.b (dk DJ13_numberOfTrailingZeros_95d88_0 1 rfl) rfl ?_
  refine lv_topi (fun v1 e2 => ?_)
  replace hF := bnd_e hF e2
  refine lv_istore_n (lv' := [(2, .int v1), (0, .long a0)]) X.x X.b (dk DJ13_numberOfTrailingZeros_95d88_0 2 rfl) rfl hl (by decide) rfl (fun ls hl => ?_)
  replace hl : lv_has ls 3 [(0, .long a0), (2, .int v1)] := lv_sub hl [1, 0] rfl
  refine lv_iload_n X.x X.b (dk DJ13_numberOfTrailingZeros_95d88_0 3 rfl) rfl (lv_at hl 1 rfl) ?_
  refine lv_if_ne (tgt := 21) X.x X.b (dk DJ13_numberOfTrailingZeros_95d88_0 4 rfl) (by decide) (fun c3 => ?_) (fun c3 => ?_)
  · replace hF := if_f hF c3
    refine lv_iload_n X.x X.b (dk DJ13_numberOfTrailingZeros_95d88_0 13 rfl) rfl (lv_at hl 1 rfl) ?_
    obtain ⟨x4, e5, hF⟩ := bd hF
    refine mr_ci0 hH ⟨rfl, rfl⟩ (mr_runS (As := [.int v1]) (rest := []) X hH (c_J6_numberOfTrailingZeros_0f7a4 e5) kM_J13_311 kT_J6_numberOfTrailingZeros_0f7a4 kN_J6 kC_J6_numberOfTrailingZeros_0f7a4 hd_J6_numberOfTrailingZeros_0f7a4 ⟨Nat.le_of_ble_eq_true rfl, Nat.le_of_ble_eq_true rfl⟩ rfl hl.1 (Nat.le_of_ble_eq_true rfl) (dk DJ13_numberOfTrailingZeros_95d88_0 14 rfl) ⟨Nat.zero_le _, Nat.zero_le _⟩) (fun r h1 H locs hp hH => ?_)
    obtain ⟨hr1, hr2⟩ := hp; rw [hr1]; rw [hr2] at hH; clear hr1 hr2
    cases sm hF
    exact mr_iret X hr hlk hH ⟨rfl, rfl⟩ (dk DJ13_numberOfTrailingZeros_95d88_0 15 rfl)
  · replace hF := if_t hF c3
    refine lv_bipush (v := 32) X.x X.b (dk DJ13_numberOfTrailingZeros_95d88_0 5 rfl) (by decide) ?_
    refine lv_lload_n X.x X.b (dk DJ13_numberOfTrailingZeros_95d88_0 6 rfl) rfl (lv_at hl 0 rfl) ?_
    refine lv_bipush (v := 32) X.x X.b (dk DJ13_numberOfTrailingZeros_95d88_0 7 rfl) (by decide) ?_
    refine lv_lushr X.x X.b (dk DJ13_numberOfTrailingZeros_95d88_0 8 rfl) rfl ?_
    refine lv_l2i X.x X.b (dk DJ13_numberOfTrailingZeros_95d88_0 9 rfl) rfl ?_
    obtain ⟨x7, e8, hF⟩ := bd hF
    refine mr_ci0 hH ⟨rfl, rfl⟩ (mr_runS (As := [.int ((((a0 : Int64).toUInt64 >>> ((32 : Int32).toInt64.toUInt64 &&& Int64.toUInt64 63)).toInt64 : Int64).toInt32)]) (rest := [.int 32]) X hH (c_J6_numberOfTrailingZeros_0f7a4 e8) kM_J13_311 kT_J6_numberOfTrailingZeros_0f7a4 kN_J6 kC_J6_numberOfTrailingZeros_0f7a4 hd_J6_numberOfTrailingZeros_0f7a4 ⟨Nat.le_of_ble_eq_true rfl, Nat.le_of_ble_eq_true rfl⟩ rfl hl.1 (Nat.le_of_ble_eq_true rfl) (dk DJ13_numberOfTrailingZeros_95d88_0 10 rfl) ⟨Nat.zero_le _, Nat.zero_le _⟩) (fun r h1 H locs hp hH => ?_)
    obtain ⟨hr1, hr2⟩ := hp; rw [hr1]; rw [hr2] at hH; clear hr1 hr2
    refine lv_iadd X.x X.b (dk DJ13_numberOfTrailingZeros_95d88_0 11 rfl) ?_
    refine lv_goto (tgt := 25) X.x X.b (dk DJ13_numberOfTrailingZeros_95d88_0 12 rfl) (by decide) ?_
    cases sm hF
    exact mr_iret X hr hlk hH ⟨rfl, rfl⟩ (dk DJ13_numberOfTrailingZeros_95d88_0 15 rfl)
-- X10_lowest
abbrev rm_X10_lowest : Room := { frames := 2, cells := 0, slots := 0, locals := 43 }
theorem hd_X10_lowest : mHd yX10_lowest 1 := ⟨by decide +kernel, by decide +kernel, by decide +kernel⟩
theorem DX10_lowest_0 : ∀ t ∈ ([(0, .lload_n 0, 1), (1, .lconst 0, 1), (2, .lcmp, 1), (3, .ifCond .ne 7, 3), (6, .iconst (-1), 1), (7, .goto 7, 3), (10, .lload_n 0, 1), (11, .invokestatic 23, 3), (14, .ireturn, 1)] : List (Nat × Instr × Nat)), decode cX10_lowest t.1 = .ok (t.2.1, t.2.2) := by decide +kernel
noncomputable def f_X10_lowest (a0 : Int64) : Option (Int32) := (if (lg_cmp a0 0) = 0 then some ((-1)) else (f_J13_numberOfTrailingZeros_95d88 a0).bind (fun x2 => some x2))
set_option maxHeartbeats 4000000 in
set_option maxRecDepth 100000 in
theorem c_X10_lowest {l : Launch} {G : mG} {h : mM}  {a0 : Int64} {x : Int32} (hF : f_X10_lowest a0 = some x) : cQ l G yX10_lowest cX10_lowest 2 (some FieldType.int) rm_X10_lowest [.long a0] (h) (mQi G (fun r h1 => r = x ∧ h1 = h)) := by
  refine mp_of (by decide +kernel) (Nat.le_of_ble_eq_true rfl) ?_
  intro p e s m below meth c X hr hlk hH hname ls hl
  dsimp only [f_X10_lowest] at hF
  replace hl : lv_has ls 2 [(0, .long a0)] := hl
  refine lv_lload_n X.x X.b (dk DX10_lowest_0 0 rfl) rfl (lv_at hl 0 rfl) ?_
  refine lv_lconst (v := 0) X.x X.b (dk DX10_lowest_0 1 rfl) (by decide) ?_
  refine W.lcmp X.x X.b (dk DX10_lowest_0 2 rfl) ?_
  refine lv_if_ne (tgt := 10) X.x X.b (dk DX10_lowest_0 3 rfl) (by decide) (fun c1 => ?_) (fun c1 => ?_)
  · replace hF := if_f hF c1
    refine lv_lload_n X.x X.b (dk DX10_lowest_0 6 rfl) rfl (lv_at hl 0 rfl) ?_
    obtain ⟨x2, e3, hF⟩ := bd hF
    refine mr_ci0 hH ⟨rfl, rfl⟩ (mr_runS (As := [.long a0]) (rest := []) X hH (c_J13_numberOfTrailingZeros_95d88 e3) kM_X10_23 kT_J13_numberOfTrailingZeros_95d88 kN_J13 kC_J13_numberOfTrailingZeros_95d88 hd_J13_numberOfTrailingZeros_95d88 ⟨Nat.le_of_ble_eq_true rfl, Nat.le_of_ble_eq_true rfl⟩ rfl hl.1 (Nat.le_of_ble_eq_true rfl) (dk DX10_lowest_0 7 rfl) ⟨Nat.zero_le _, Nat.zero_le _⟩) (fun r h1 H locs hp hH => ?_)
    obtain ⟨hr1, hr2⟩ := hp; rw [hr1]; rw [hr2] at hH; clear hr1 hr2
    cases sm hF
    exact mr_iret X hr hlk hH ⟨rfl, rfl⟩ (dk DX10_lowest_0 8 rfl)
  · replace hF := if_t hF c1
    refine lv_iconst (v := (-1)) X.x X.b (dk DX10_lowest_0 4 rfl) (by decide) ?_
    refine lv_goto (tgt := 14) X.x X.b (dk DX10_lowest_0 5 rfl) (by decide) ?_
    cases sm hF
    exact mr_iret X hr hlk hH ⟨rfl, rfl⟩ (dk DX10_lowest_0 8 rfl)
-- X0_begin
abbrev rm_X0_begin : Room := { frames := 3, cells := 0, slots := 0, locals := 64 }
theorem hd_X0_begin : mHd yX0_begin 4 := ⟨by decide +kernel, by decide +kernel, by decide +kernel⟩
theorem DX0_begin_0 : ∀ t ∈ ([(0, .lload_n 2, 1), (1, .ldc2_w 90, 3), (4, .lxor, 1), (5, .invokestatic 92, 3), (8, .istore 8, 2), (10, .iload_n 1, 1), (11, .ifCond .lt 21, 3), (14, .iload_n 1, 1), (15, .bipush 64, 2), (17, .if_icmp .gt 15, 3), (20, .iload 8, 2), (22, .ifCond .lt 10, 3), (25, .iload 8, 2), (27, .bipush 64, 2), (29, .if_icmp .lt 4, 3), (32, .return_, 1), (33, .aload_n 0, 1), (34, .getfield 26, 3), (37, .iload_n 1, 1), (38, .lload_n 2, 1), (39, .lastore, 1), (40, .aload_n 0, 1), (41, .getfield 29, 3), (44, .iload_n 1, 1), (45, .lload 4, 2), (47, .lastore, 1), (48, .aload_n 0, 1), (49, .getfield 32, 3), (52, .iload_n 1, 1), (53, .lload 6, 2), (55, .lastore, 1), (56, .aload_n 0, 1), (57, .getfield 23, 3), (60, .iload_n 1, 1), (61, .aload_n 0, 1), (62, .getfield 11, 3), (65, .iload 8, 2), (67, .laload, 1), (68, .lload 4, 2), (70, .ldc2_w 90, 3), (73, .lxor, 1), (74, .land, 1), (75, .lastore, 1), (76, .return_, 1)] : List (Nat × Instr × Nat)), decode cX0_begin t.1 = .ok (t.2.1, t.2.2) := by decide +kernel
noncomputable def f_X0_begin (st : OS) (a0 : Int32) (a1 : Int64) (a2 : Int64) (a3 : Int64) : Option (OS) := (f_X10_lowest (a1 ^^^ ((-1)))).bind (fun x1 => (if a0 < 0 then some st else (if 64 < a0 then some st else (if x1 < 0 then some st else (if x1 < 64 then if inb a0 65 = true then bnd (oB st 5 (vp_updL (st.2.2.2 5) (a0 : Int32).toNatClampNeg a1)) (fun t9 => bnd (oB t9 6 (vp_updL (t9.2.2.2 6) (a0 : Int32).toNatClampNeg a2)) (fun t11 => bnd (oB t11 7 (vp_updL (t11.2.2.2 7) (a0 : Int32).toNatClampNeg a3)) (fun t13 => if inb x1 64 = true then bnd (oB t13 4 (vp_updL (t13.2.2.2 4) (a0 : Int32).toNatClampNeg ((t13.2.2.2 0 (x1 : Int32).toNatClampNeg) &&& (a2 ^^^ ((-1)))))) (fun t16 => some t16) else none))) else none else some st)))))
set_option maxHeartbeats 4000000 in
set_option maxRecDepth 100000 in
theorem c_X0_begin {l : Launch} {G : mG} {h : mM} {q : Nat → Nat} (hq : oinj LX0 q) {st : OS} {a0 : Int32} {a1 : Int64} {a2 : Int64} {a3 : Int64} {x : OS} (hF : f_X0_begin st a0 a1 a2 a3 = some x) : cQ l G yX0_begin cX0_begin 9 none rm_X0_begin [.ref (q 11), .int a0, .long a1, .long a2, .long a3] (oset LX0 G q st h) (mQv G (fun h1 => h1 = oset LX0 G q x h)) := by
  refine mp_of (by decide +kernel) (Nat.le_of_ble_eq_true rfl) ?_
  intro p e s m below meth c X hr hlk hH hname ls hl
  dsimp only [f_X0_begin] at hF
  replace hl : lv_has ls 9 [(0, .ref (q 11)), (1, .int a0), (2, .long a1), (4, .long a2), (6, .long a3)] := hl
  refine lv_lload_n X.x X.b (dk DX0_begin_0 0 rfl) rfl (lv_at hl 2 rfl) ?_
  refine lv_ldc2 (v := (-1)) X.x X.b X.ow (X.ts _ kK_X0_90) (dk DX0_begin_0 1 rfl) ?_
  refine lv_lxor X.x X.b (dk DX0_begin_0 2 rfl) ?_
  obtain ⟨x1, e2, hF⟩ := bd hF
  refine mr_ci0 hH ⟨rfl, rfl⟩ (mr_runS (As := [.long (a1 ^^^ ((-1)))]) (rest := []) X hH (c_X10_lowest e2) kM_X0_92 kT_X10_lowest kN_X10 kC_X10_lowest hd_X10_lowest ⟨Nat.le_of_ble_eq_true rfl, Nat.le_of_ble_eq_true rfl⟩ rfl hl.1 (Nat.le_of_ble_eq_true rfl) (dk DX0_begin_0 3 rfl) ⟨Nat.zero_le _, Nat.zero_le _⟩) (fun r h1 H locs hp hH => ?_)
  obtain ⟨hr1, hr2⟩ := hp; rw [hr1]; rw [hr2] at hH; clear hr1 hr2
  refine lv_istore (lv' := [(8, .int x1), (0, .ref (q 11)), (1, .int a0), (2, .long a1), (4, .long a2), (6, .long a3)]) X.x X.b (dk DX0_begin_0 4 rfl) hl (by decide) rfl (fun ls hl => ?_)
  replace hl : lv_has ls 9 [(0, .ref (q 11)), (1, .int a0), (2, .long a1), (4, .long a2), (6, .long a3), (8, .int x1)] := lv_sub hl [1, 2, 3, 4, 5, 0] rfl
  refine lv_iload_n X.x X.b (dk DX0_begin_0 5 rfl) rfl (lv_at hl 1 rfl) ?_
  refine lv_if_lt (tgt := 32) X.x X.b (dk DX0_begin_0 6 rfl) (by decide) (fun c4 => ?_) (fun c4 => ?_)
  · replace hF := if_t hF c4
    cases sm hF
    exact mr_vret X hr hlk hH rfl (dk DX0_begin_0 15 rfl)
  · replace hF := if_f hF c4
    refine lv_iload_n X.x X.b (dk DX0_begin_0 7 rfl) rfl (lv_at hl 1 rfl) ?_
    refine lv_bipush (v := 64) X.x X.b (dk DX0_begin_0 8 rfl) (by decide) ?_
    refine lv_icmp_gt (tgt := 32) X.x X.b (dk DX0_begin_0 9 rfl) (by decide) (fun c5 => ?_) (fun c5 => ?_)
    · replace hF := if_t hF c5
      cases sm hF
      exact mr_vret X hr hlk hH rfl (dk DX0_begin_0 15 rfl)
    · replace hF := if_f hF c5
      refine lv_iload X.x X.b (dk DX0_begin_0 10 rfl) (lv_at hl 5 rfl) ?_
      refine lv_if_lt (tgt := 32) X.x X.b (dk DX0_begin_0 11 rfl) (by decide) (fun c6 => ?_) (fun c6 => ?_)
      · replace hF := if_t hF c6
        cases sm hF
        exact mr_vret X hr hlk hH rfl (dk DX0_begin_0 15 rfl)
      · replace hF := if_f hF c6
        refine lv_iload X.x X.b (dk DX0_begin_0 12 rfl) (lv_at hl 5 rfl) ?_
        refine lv_bipush (v := 64) X.x X.b (dk DX0_begin_0 13 rfl) (by decide) ?_
        refine lv_icmp_lt (tgt := 33) X.x X.b (dk DX0_begin_0 14 rfl) (by decide) (fun c7 => ?_) (fun c7 => ?_)
        · replace hF := if_t hF c7
          refine lv_aload_n X.x X.b (dk DX0_begin_0 16 rfl) rfl (lv_at hl 0 rfl) ?_
          refine og_getR (t := 1) OX0 X hq hH 5 (by decide) rfl kF_X0_26 (dk DX0_begin_0 17 rfl) ?_
          refine lv_iload_n X.x X.b (dk DX0_begin_0 18 rfl) rfl (lv_at hl 1 rfl) ?_
          refine lv_lload_n X.x X.b (dk DX0_begin_0 19 rfl) rfl (lv_at hl 2 rfl) ?_
          obtain ⟨c8, hF⟩ := gd hF
          refine og_last X hq hH 5 (by decide) rfl (inb_in c8) (dk DX0_begin_0 20 rfl) (fun H locs hH => ?_)
          obtain ⟨t9, e10⟩ : ∃ y, y = oB st 5 (vp_updL (st.2.2.2 5) (a0 : Int32).toNatClampNeg a1) := ⟨_, rfl⟩
          rw [← e10] at hH
          replace hF := bnd_e hF e10
          refine lv_aload_n X.x X.b (dk DX0_begin_0 21 rfl) rfl (lv_at hl 0 rfl) ?_
          refine og_getR (t := 1) OX0 X hq hH 6 (by decide) rfl kF_X0_29 (dk DX0_begin_0 22 rfl) ?_
          refine lv_iload_n X.x X.b (dk DX0_begin_0 23 rfl) rfl (lv_at hl 1 rfl) ?_
          refine lv_lload X.x X.b (dk DX0_begin_0 24 rfl) (lv_at hl 3 rfl) ?_
          refine og_last X hq hH 6 (by decide) rfl (inb_in c8) (dk DX0_begin_0 25 rfl) (fun H locs hH => ?_)
          obtain ⟨t11, e12⟩ : ∃ y, y = oB t9 6 (vp_updL (t9.2.2.2 6) (a0 : Int32).toNatClampNeg a2) := ⟨_, rfl⟩
          rw [← e12] at hH
          replace hF := bnd_e hF e12
          refine lv_aload_n X.x X.b (dk DX0_begin_0 26 rfl) rfl (lv_at hl 0 rfl) ?_
          refine og_getR (t := 1) OX0 X hq hH 7 (by decide) rfl kF_X0_32 (dk DX0_begin_0 27 rfl) ?_
          refine lv_iload_n X.x X.b (dk DX0_begin_0 28 rfl) rfl (lv_at hl 1 rfl) ?_
          refine lv_lload X.x X.b (dk DX0_begin_0 29 rfl) (lv_at hl 4 rfl) ?_
          refine og_last X hq hH 7 (by decide) rfl (inb_in c8) (dk DX0_begin_0 30 rfl) (fun H locs hH => ?_)
          obtain ⟨t13, e14⟩ : ∃ y, y = oB t11 7 (vp_updL (t11.2.2.2 7) (a0 : Int32).toNatClampNeg a3) := ⟨_, rfl⟩
          rw [← e14] at hH
          replace hF := bnd_e hF e14
          refine lv_aload_n X.x X.b (dk DX0_begin_0 31 rfl) rfl (lv_at hl 0 rfl) ?_
          refine og_getR (t := 1) OX0 X hq hH 4 (by decide) rfl kF_X0_23 (dk DX0_begin_0 32 rfl) ?_
          refine lv_iload_n X.x X.b (dk DX0_begin_0 33 rfl) rfl (lv_at hl 1 rfl) ?_
          refine lv_aload_n X.x X.b (dk DX0_begin_0 34 rfl) rfl (lv_at hl 0 rfl) ?_
          refine og_getR (t := 1) OX0 X hq hH 0 (by decide) rfl kF_X0_11 (dk DX0_begin_0 35 rfl) ?_
          refine lv_iload X.x X.b (dk DX0_begin_0 36 rfl) (lv_at hl 5 rfl) ?_
          obtain ⟨c15, hF⟩ := gd hF
          refine og_lald X hq hH 0 (by decide) rfl (inb_in c15) (dk DX0_begin_0 37 rfl) ?_
          refine lv_lload X.x X.b (dk DX0_begin_0 38 rfl) (lv_at hl 3 rfl) ?_
          refine lv_ldc2 (v := (-1)) X.x X.b X.ow (X.ts _ kK_X0_90) (dk DX0_begin_0 39 rfl) ?_
          refine lv_lxor X.x X.b (dk DX0_begin_0 40 rfl) ?_
          refine lv_land X.x X.b (dk DX0_begin_0 41 rfl) ?_
          refine og_last X hq hH 4 (by decide) rfl (inb_in c8) (dk DX0_begin_0 42 rfl) (fun H locs hH => ?_)
          obtain ⟨t16, e17⟩ : ∃ y, y = oB t13 4 (vp_updL (t13.2.2.2 4) (a0 : Int32).toNatClampNeg ((t13.2.2.2 0 (x1 : Int32).toNatClampNeg) &&& (a2 ^^^ ((-1))))) := ⟨_, rfl⟩
          rw [← e17] at hH
          replace hF := bnd_e hF e17
          cases sm hF
          exact mr_vret X hr hlk hH rfl (dk DX0_begin_0 43 rfl)
        · replace hF := if_f hF c7
          cases sm hF
          exact mr_vret X hr hlk hH rfl (dk DX0_begin_0 15 rfl)
-- X0_goesDeeper
abbrev rm_X0_goesDeeper : Room := { frames := 4, cells := 0, slots := 0, locals := 92 }
theorem hd_X0_goesDeeper : mHd yX0_goesDeeper 2 := ⟨by decide +kernel, by decide +kernel, by decide +kernel⟩
theorem DX0_goesDeeper_0 : ∀ t ∈ ([(0, .iload_n 1, 1), (1, .ifCond .lt 19, 3), (4, .iload_n 1, 1), (5, .bipush 64, 2), (7, .if_icmp .ge 13, 3), (10, .iload_n 2, 1), (11, .ifCond .lt 9, 3), (14, .iload_n 2, 1), (15, .bipush 64, 2), (17, .if_icmp .lt 5, 3), (20, .iconst 0, 1), (21, .ireturn, 1), (22, .aload_n 0, 1), (23, .getfield 26, 3), (26, .iload_n 1, 1), (27, .laload, 1), (28, .aload_n 0, 1), (29, .getfield 17, 3), (32, .iload_n 2, 1), (33, .laload, 1), (34, .lor, 1), (35, .lstore_n 3, 1), (36, .aload_n 0, 1), (37, .getfield 32, 3), (40, .iload_n 1, 1), (41, .laload, 1), (42, .lconst 1, 1), (43, .iload_n 2, 1), (44, .lshl, 1), (45, .lor, 1), (46, .lstore 5, 2), (48, .lload_n 3, 1), (49, .aload_n 0, 1), (50, .getfield 43, 3), (53, .lcmp, 1), (54, .ifCond .ne 35, 3), (57, .aload_n 0, 1), (58, .aload_n 0, 1), (59, .getfield 64, 3), (62, .ifCond .ne 8, 3), (65, .lload 5, 2), (67, .goto 7, 3), (70, .aload_n 0, 1), (71, .getfield 67, 3), (74, .putfield 67, 3), (77, .aload_n 0, 1), (78, .dup, 1), (79, .getfield 64, 3), (82, .iconst 1, 1), (83, .iadd, 1), (84, .putfield 64, 3), (87, .iconst 0, 1), (88, .ireturn, 1), (89, .aload_n 0, 1), (90, .iload_n 1, 1), (91, .iconst 1, 1), (92, .iadd, 1), (93, .lload_n 3, 1), (94, .aload_n 0, 1), (95, .getfield 29, 3)] : List (Nat × Instr × Nat)), decode cX0_goesDeeper t.1 = .ok (t.2.1, t.2.2) := by decide +kernel
theorem DX0_goesDeeper_1 : ∀ t ∈ ([(98, .iload_n 1, 1), (99, .laload, 1), (100, .aload_n 0, 1), (101, .getfield 20, 3), (104, .iload_n 2, 1), (105, .laload, 1), (106, .lor, 1), (107, .lload 5, 2), (109, .invokevirtual 74, 3), (112, .iconst 1, 1), (113, .ireturn, 1)] : List (Nat × Instr × Nat)), decode cX0_goesDeeper t.1 = .ok (t.2.1, t.2.2) := by decide +kernel
noncomputable def f_X0_goesDeeper (st : OS) (a0 : Int32) (a1 : Int32) : Option (Int32 × OS) := (if a0 < 0 then some ((0, st)) else (if 64 ≤ a0 then some ((0, st)) else (if a1 < 0 then some ((0, st)) else (if a1 < 64 then if inb a0 65 = true then if inb a1 64 = true then bnd ((st.2.2.2 5 (a0 : Int32).toNatClampNeg) ||| (st.2.2.2 1 (a1 : Int32).toNatClampNeg) : Int64) (fun v7 => bnd ((st.2.2.2 7 (a0 : Int32).toNatClampNeg) ||| (((1 : Int64)) <<< ((a1 : Int32).toInt64 &&& 63)) : Int64) (fun v9 => (if (lg_cmp v7 (st.2.1 3)) = 0 then (if (st.1 8) = 0 then bnd (oJ st 9 v9) (fun t20 => bnd (oI t20 8 ((t20.1 8) + 1)) (fun t22 => some ((0, t22)))) else bnd (oJ st 9 (st.2.1 9)) (fun t16 => bnd (oI t16 8 ((t16.1 8) + 1)) (fun t18 => some ((0, t18))))) else (f_X0_begin st (a0 + 1) v7 ((st.2.2.2 6 (a0 : Int32).toNatClampNeg) ||| (st.2.2.2 2 (a1 : Int32).toNatClampNeg)) v9).bind (fun x12 => some ((1, x12)))))) else none else none else some ((0, st))))))
set_option maxHeartbeats 4000000 in
set_option maxRecDepth 100000 in
theorem c_X0_goesDeeper {l : Launch} {G : mG} {h : mM} {q : Nat → Nat} (hq : oinj LX0 q) {st : OS} {a0 : Int32} {a1 : Int32} {x : Int32 × OS} (hF : f_X0_goesDeeper st a0 a1 = some x) : cQ l G yX0_goesDeeper cX0_goesDeeper 7 (some FieldType.boolean) rm_X0_goesDeeper [.ref (q 11), .int a0, .int a1] (oset LX0 G q st h) (mQi G (fun r h1 => r = x.1 ∧ h1 = oset LX0 G q x.2 h)) := by
  refine mp_of (by decide +kernel) (Nat.le_of_ble_eq_true rfl) ?_
  intro p e s m below meth c X hr hlk hH hname ls hl
  dsimp only [f_X0_goesDeeper] at hF
  replace hl : lv_has ls 7 [(0, .ref (q 11)), (1, .int a0), (2, .int a1)] := hl
  refine lv_iload_n X.x X.b (dk DX0_goesDeeper_0 0 rfl) rfl (lv_at hl 1 rfl) ?_
  refine lv_if_lt (tgt := 20) X.x X.b (dk DX0_goesDeeper_0 1 rfl) (by decide) (fun c1 => ?_) (fun c1 => ?_)
  · replace hF := if_t hF c1
    refine lv_iconst (v := 0) X.x X.b (dk DX0_goesDeeper_0 10 rfl) (by decide) ?_
    cases sm hF
    exact mr_zret X hr hlk hH rfl ⟨rfl, rfl⟩ (dk DX0_goesDeeper_0 11 rfl)
  · replace hF := if_f hF c1
    refine lv_iload_n X.x X.b (dk DX0_goesDeeper_0 2 rfl) rfl (lv_at hl 1 rfl) ?_
    refine lv_bipush (v := 64) X.x X.b (dk DX0_goesDeeper_0 3 rfl) (by decide) ?_
    refine lv_icmp_ge (tgt := 20) X.x X.b (dk DX0_goesDeeper_0 4 rfl) (by decide) (fun c2 => ?_) (fun c2 => ?_)
    · replace hF := if_t hF c2
      refine lv_iconst (v := 0) X.x X.b (dk DX0_goesDeeper_0 10 rfl) (by decide) ?_
      cases sm hF
      exact mr_zret X hr hlk hH rfl ⟨rfl, rfl⟩ (dk DX0_goesDeeper_0 11 rfl)
    · replace hF := if_f hF c2
      refine lv_iload_n X.x X.b (dk DX0_goesDeeper_0 5 rfl) rfl (lv_at hl 2 rfl) ?_
      refine lv_if_lt (tgt := 20) X.x X.b (dk DX0_goesDeeper_0 6 rfl) (by decide) (fun c3 => ?_) (fun c3 => ?_)
      · replace hF := if_t hF c3
        refine lv_iconst (v := 0) X.x X.b (dk DX0_goesDeeper_0 10 rfl) (by decide) ?_
        cases sm hF
        exact mr_zret X hr hlk hH rfl ⟨rfl, rfl⟩ (dk DX0_goesDeeper_0 11 rfl)
      · replace hF := if_f hF c3
        refine lv_iload_n X.x X.b (dk DX0_goesDeeper_0 7 rfl) rfl (lv_at hl 2 rfl) ?_
        refine lv_bipush (v := 64) X.x X.b (dk DX0_goesDeeper_0 8 rfl) (by decide) ?_
        refine lv_icmp_lt (tgt := 22) X.x X.b (dk DX0_goesDeeper_0 9 rfl) (by decide) (fun c4 => ?_) (fun c4 => ?_)
        · replace hF := if_t hF c4
          refine lv_aload_n X.x X.b (dk DX0_goesDeeper_0 12 rfl) rfl (lv_at hl 0 rfl) ?_
          refine og_getR (t := 1) OX0 X hq hH 5 (by decide) rfl kF_X0_26 (dk DX0_goesDeeper_0 13 rfl) ?_
          refine lv_iload_n X.x X.b (dk DX0_goesDeeper_0 14 rfl) rfl (lv_at hl 1 rfl) ?_
          obtain ⟨c5, hF⟩ := gd hF
          refine og_lald X hq hH 5 (by decide) rfl (inb_in c5) (dk DX0_goesDeeper_0 15 rfl) ?_
          refine lv_aload_n X.x X.b (dk DX0_goesDeeper_0 16 rfl) rfl (lv_at hl 0 rfl) ?_
          refine og_getR (t := 1) OX0 X hq hH 1 (by decide) rfl kF_X0_17 (dk DX0_goesDeeper_0 17 rfl) ?_
          refine lv_iload_n X.x X.b (dk DX0_goesDeeper_0 18 rfl) rfl (lv_at hl 2 rfl) ?_
          obtain ⟨c6, hF⟩ := gd hF
          refine og_lald X hq hH 1 (by decide) rfl (inb_in c6) (dk DX0_goesDeeper_0 19 rfl) ?_
          refine lv_lor X.x X.b (dk DX0_goesDeeper_0 20 rfl) ?_
          refine lv_topl (fun v7 e8 => ?_)
          replace hF := bnd_e hF e8
          refine lv_lstore_n (lv' := [(3, .long v7), (0, .ref (q 11)), (1, .int a0), (2, .int a1)]) X.x X.b (dk DX0_goesDeeper_0 21 rfl) rfl hl (by decide) rfl (fun ls hl => ?_)
          replace hl : lv_has ls 7 [(0, .ref (q 11)), (1, .int a0), (2, .int a1), (3, .long v7)] := lv_sub hl [1, 2, 3, 0] rfl
          refine lv_aload_n X.x X.b (dk DX0_goesDeeper_0 22 rfl) rfl (lv_at hl 0 rfl) ?_
          refine og_getR (t := 1) OX0 X hq hH 7 (by decide) rfl kF_X0_32 (dk DX0_goesDeeper_0 23 rfl) ?_
          refine lv_iload_n X.x X.b (dk DX0_goesDeeper_0 24 rfl) rfl (lv_at hl 1 rfl) ?_
          refine og_lald X hq hH 7 (by decide) rfl (inb_in c5) (dk DX0_goesDeeper_0 25 rfl) ?_
          refine lv_lconst (v := 1) X.x X.b (dk DX0_goesDeeper_0 26 rfl) (by decide) ?_
          refine lv_iload_n X.x X.b (dk DX0_goesDeeper_0 27 rfl) rfl (lv_at hl 2 rfl) ?_
          refine lv_lshl X.x X.b (dk DX0_goesDeeper_0 28 rfl) rfl ?_
          refine lv_lor X.x X.b (dk DX0_goesDeeper_0 29 rfl) ?_
          refine lv_topl (fun v9 e10 => ?_)
          replace hF := bnd_e hF e10
          refine lv_lstore (lv' := [(5, .long v9), (0, .ref (q 11)), (1, .int a0), (2, .int a1), (3, .long v7)]) X.x X.b (dk DX0_goesDeeper_0 30 rfl) hl (by decide) rfl (fun ls hl => ?_)
          replace hl : lv_has ls 7 [(0, .ref (q 11)), (1, .int a0), (2, .int a1), (3, .long v7), (5, .long v9)] := lv_sub hl [1, 2, 3, 4, 0] rfl
          refine lv_lload_n X.x X.b (dk DX0_goesDeeper_0 31 rfl) rfl (lv_at hl 3 rfl) ?_
          refine lv_aload_n X.x X.b (dk DX0_goesDeeper_0 32 rfl) rfl (lv_at hl 0 rfl) ?_
          refine og_getJ OX0 X hq hH 3 (by decide) rfl kF_X0_43 (dk DX0_goesDeeper_0 33 rfl) ?_
          refine W.lcmp X.x X.b (dk DX0_goesDeeper_0 34 rfl) ?_
          refine lv_if_ne (tgt := 89) X.x X.b (dk DX0_goesDeeper_0 35 rfl) (by decide) (fun c11 => ?_) (fun c11 => ?_)
          · replace hF := if_f hF c11
            refine lv_aload_n X.x X.b (dk DX0_goesDeeper_0 53 rfl) rfl (lv_at hl 0 rfl) ?_
            refine lv_iload_n X.x X.b (dk DX0_goesDeeper_0 54 rfl) rfl (lv_at hl 1 rfl) ?_
            refine lv_iconst (v := 1) X.x X.b (dk DX0_goesDeeper_0 55 rfl) (by decide) ?_
            refine lv_iadd X.x X.b (dk DX0_goesDeeper_0 56 rfl) ?_
            refine lv_lload_n X.x X.b (dk DX0_goesDeeper_0 57 rfl) rfl (lv_at hl 3 rfl) ?_
            refine lv_aload_n X.x X.b (dk DX0_goesDeeper_0 58 rfl) rfl (lv_at hl 0 rfl) ?_
            refine og_getR (t := 1) OX0 X hq hH 6 (by decide) rfl kF_X0_29 (dk DX0_goesDeeper_0 59 rfl) ?_
            refine lv_iload_n X.x X.b (dk DX0_goesDeeper_1 0 rfl) rfl (lv_at hl 1 rfl) ?_
            refine og_lald X hq hH 6 (by decide) rfl (inb_in c5) (dk DX0_goesDeeper_1 1 rfl) ?_
            refine lv_aload_n X.x X.b (dk DX0_goesDeeper_1 2 rfl) rfl (lv_at hl 0 rfl) ?_
            refine og_getR (t := 1) OX0 X hq hH 2 (by decide) rfl kF_X0_20 (dk DX0_goesDeeper_1 3 rfl) ?_
            refine lv_iload_n X.x X.b (dk DX0_goesDeeper_1 4 rfl) rfl (lv_at hl 2 rfl) ?_
            refine og_lald X hq hH 2 (by decide) rfl (inb_in c6) (dk DX0_goesDeeper_1 5 rfl) ?_
            refine lv_lor X.x X.b (dk DX0_goesDeeper_1 6 rfl) ?_
            refine lv_lload X.x X.b (dk DX0_goesDeeper_1 7 rfl) (lv_at hl 4 rfl) ?_
            obtain ⟨x12, e13, hF⟩ := bd hF
            refine mr_cv0 hH ⟨rfl, rfl⟩ (mr_runV (As := [.int (a0 + 1), .long v7, .long ((st.2.2.2 6 (a0 : Int32).toNatClampNeg) ||| (st.2.2.2 2 (a1 : Int32).toNatClampNeg)), .long v9]) (rest := []) X hH (c_X0_begin hq e13) ((oset_at hq (Nat.le_refl _) ohas_N).trans (congrArg some ocell_N)) OX0.1 kM_X0_74 kI_X0_begin kS_X0_begin kN_X0 kC_X0_begin hd_X0_begin ⟨Nat.le_of_ble_eq_true rfl, Nat.le_of_ble_eq_true rfl⟩ rfl hl.1 (Nat.le_of_ble_eq_true rfl) (dk DX0_goesDeeper_1 8 rfl) ⟨Nat.zero_le _, Nat.zero_le _⟩) (fun h1 H locs hp hH => ?_)
            rw [hp] at hH; clear hp
            refine lv_iconst (v := 1) X.x X.b (dk DX0_goesDeeper_1 9 rfl) (by decide) ?_
            cases sm hF
            exact mr_zret X hr hlk hH rfl ⟨rfl, rfl⟩ (dk DX0_goesDeeper_1 10 rfl)
          · replace hF := if_t hF c11
            refine lv_aload_n X.x X.b (dk DX0_goesDeeper_0 36 rfl) rfl (lv_at hl 0 rfl) ?_
            refine lv_aload_n X.x X.b (dk DX0_goesDeeper_0 37 rfl) rfl (lv_at hl 0 rfl) ?_
            refine og_getI OX0 X hq hH 8 (by decide) rfl kF_X0_64 (dk DX0_goesDeeper_0 38 rfl) ?_
            refine lv_if_ne (tgt := 70) X.x X.b (dk DX0_goesDeeper_0 39 rfl) (by decide) (fun c15 => ?_) (fun c15 => ?_)
            · replace hF := if_f hF c15
              refine lv_aload_n X.x X.b (dk DX0_goesDeeper_0 42 rfl) rfl (lv_at hl 0 rfl) ?_
              refine og_getJ OX0 X hq hH 9 (by decide) rfl kF_X0_67 (dk DX0_goesDeeper_0 43 rfl) ?_
              refine og_putJ OX0 X hq hH 9 (by decide) rfl kF_X0_67 rfl rfl rfl (dk DX0_goesDeeper_0 44 rfl) (fun H locs hH => ?_)
              obtain ⟨t16, e17⟩ : ∃ y, y = oJ st 9 (st.2.1 9) := ⟨_, rfl⟩
              rw [← e17] at hH
              replace hF := bnd_e hF e17
              refine lv_aload_n X.x X.b (dk DX0_goesDeeper_0 45 rfl) rfl (lv_at hl 0 rfl) ?_
              refine lv_dup X.x X.b (dk DX0_goesDeeper_0 46 rfl) rfl ?_
              refine og_getI OX0 X hq hH 8 (by decide) rfl kF_X0_64 (dk DX0_goesDeeper_0 47 rfl) ?_
              refine lv_iconst (v := 1) X.x X.b (dk DX0_goesDeeper_0 48 rfl) (by decide) ?_
              refine lv_iadd X.x X.b (dk DX0_goesDeeper_0 49 rfl) ?_
              refine og_putI OX0 X hq hH 8 (by decide) rfl kF_X0_64 rfl rfl rfl (dk DX0_goesDeeper_0 50 rfl) (fun H locs hH => ?_)
              obtain ⟨t18, e19⟩ : ∃ y, y = oI t16 8 ((t16.1 8) + 1) := ⟨_, rfl⟩
              rw [← e19] at hH
              replace hF := bnd_e hF e19
              refine lv_iconst (v := 0) X.x X.b (dk DX0_goesDeeper_0 51 rfl) (by decide) ?_
              cases sm hF
              exact mr_zret X hr hlk hH rfl ⟨rfl, rfl⟩ (dk DX0_goesDeeper_0 52 rfl)
            · replace hF := if_t hF c15
              refine lv_lload X.x X.b (dk DX0_goesDeeper_0 40 rfl) (lv_at hl 4 rfl) ?_
              refine lv_goto (tgt := 74) X.x X.b (dk DX0_goesDeeper_0 41 rfl) (by decide) ?_
              refine og_putJ OX0 X hq hH 9 (by decide) rfl kF_X0_67 rfl rfl rfl (dk DX0_goesDeeper_0 44 rfl) (fun H locs hH => ?_)
              obtain ⟨t20, e21⟩ : ∃ y, y = oJ st 9 v9 := ⟨_, rfl⟩
              rw [← e21] at hH
              replace hF := bnd_e hF e21
              refine lv_aload_n X.x X.b (dk DX0_goesDeeper_0 45 rfl) rfl (lv_at hl 0 rfl) ?_
              refine lv_dup X.x X.b (dk DX0_goesDeeper_0 46 rfl) rfl ?_
              refine og_getI OX0 X hq hH 8 (by decide) rfl kF_X0_64 (dk DX0_goesDeeper_0 47 rfl) ?_
              refine lv_iconst (v := 1) X.x X.b (dk DX0_goesDeeper_0 48 rfl) (by decide) ?_
              refine lv_iadd X.x X.b (dk DX0_goesDeeper_0 49 rfl) ?_
              refine og_putI OX0 X hq hH 8 (by decide) rfl kF_X0_64 rfl rfl rfl (dk DX0_goesDeeper_0 50 rfl) (fun H locs hH => ?_)
              obtain ⟨t22, e23⟩ : ∃ y, y = oI t20 8 ((t20.1 8) + 1) := ⟨_, rfl⟩
              rw [← e23] at hH
              replace hF := bnd_e hF e23
              refine lv_iconst (v := 0) X.x X.b (dk DX0_goesDeeper_0 51 rfl) (by decide) ?_
              cases sm hF
              exact mr_zret X hr hlk hH rfl ⟨rfl, rfl⟩ (dk DX0_goesDeeper_0 52 rfl)
        · replace hF := if_f hF c4
          refine lv_iconst (v := 0) X.x X.b (dk DX0_goesDeeper_0 10 rfl) (by decide) ?_
          cases sm hF
          exact mr_zret X hr hlk hH rfl ⟨rfl, rfl⟩ (dk DX0_goesDeeper_0 11 rfl)
-- X0_seek
abbrev rm_X0_seek : Room := { frames := 5, cells := 0, slots := 0, locals := 118 }
theorem hd_X0_seek : mHd yX0_seek 1 := ⟨by decide +kernel, by decide +kernel, by decide +kernel⟩
theorem DX0_seek_0 : ∀ t ∈ ([(0, .aload_n 0, 1), (1, .iconst 0, 1), (2, .putfield 64, 3), (5, .aload_n 0, 1), (6, .lconst 0, 1), (7, .putfield 67, 3), (10, .aload_n 0, 1), (11, .iconst 0, 1), (12, .putfield 70, 3), (15, .aload_n 0, 1), (16, .getfield 43, 3), (19, .lconst 0, 1), (20, .lcmp, 1), (21, .ifCond .ne 9, 3), (24, .aload_n 0, 1), (25, .iconst 1, 1), (26, .putfield 64, 3), (29, .return_, 1), (30, .aload_n 0, 1), (31, .iconst 0, 1), (32, .lconst 0, 1), (33, .lconst 0, 1), (34, .lconst 0, 1), (35, .invokevirtual 74, 3), (38, .iconst 0, 1), (39, .istore_n 2, 1), (40, .iconst 0, 1), (41, .istore_n 3, 1), (42, .iconst 0, 1), (43, .istore 4, 2), (45, .iload 4, 2), (47, .ldc 78, 2), (49, .if_icmp .gt 92, 3), (52, .iload_n 2, 1), (53, .ifCond .lt 88, 3), (56, .iload_n 2, 1), (57, .bipush 64, 2), (59, .if_icmp .gt 82, 3), (62, .aload_n 0, 1), (63, .getfield 23, 3), (66, .iload_n 2, 1), (67, .laload, 1), (68, .lstore 5, 2), (70, .lload 5, 2), (72, .lconst 0, 1), (73, .lcmp, 1), (74, .ifCond .ne 9, 3), (77, .iinc 2 (-1), 3), (80, .goto 55, 3), (83, .iload_n 3, 1), (84, .ldc 79, 2), (86, .if_icmp .lt 9, 3), (89, .aload_n 0, 1), (90, .iconst 1, 1), (91, .putfield 70, 3), (94, .return_, 1), (95, .iinc 3 1, 3), (98, .aload_n 0, 1), (99, .getfield 23, 3), (102, .iload_n 2, 1)] : List (Nat × Instr × Nat)), decode cX0_seek t.1 = .ok (t.2.1, t.2.2) := by decide +kernel
theorem DX0_seek_1 : ∀ t ∈ ([(103, .lload 5, 2), (105, .lload 5, 2), (107, .lconst 1, 1), (108, .lsub, 1), (109, .land, 1), (110, .lastore, 1), (111, .aload_n 0, 1), (112, .iload_n 2, 1), (113, .lload 5, 2), (115, .invokestatic 80, 3), (118, .invokevirtual 86, 3), (121, .ifCond .eq 9, 3), (124, .iinc 2 1, 3), (127, .goto 8, 3), (130, .iload_n 1, 1), (131, .ifCond .eq 4, 3), (134, .return_, 1), (135, .iinc 4 1, 3), (138, .goto (-93), 3), (141, .return_, 1)] : List (Nat × Instr × Nat)), decode cX0_seek t.1 = .ok (t.2.1, t.2.2) := by decide +kernel
noncomputable def f_X0_seek_45 (b1 : Int32) : (OS × Int32 × Int32 × Int32) → Option ((OS × Int32 × Int32 × Int32) ⊕ (Nat × OS)) := fun z => match z with | (s_t, b2, b3, b4) => (if 200002 < b4 then some (.inr ((2, s_t))) else (if b2 < 0 then some (.inr ((2, s_t))) else (if 64 < b2 then some (.inr ((2, s_t))) else if inb b2 65 = true then bnd (s_t.2.2.2 4 (b2 : Int32).toNatClampNeg : Int64) (fun v15 => (if (lg_cmp v15 0) = 0 then bnd (b2 + (-1) : Int32) (fun v38 => bnd (b4 + 1 : Int32) (fun v40 => some (.inl ((s_t, v38, b3, v40))))) else (if b3 < 100000 then bnd (b3 + 1 : Int32) (fun v19 => bnd (oB s_t 4 (vp_updL (s_t.2.2.2 4) (b2 : Int32).toNatClampNeg (v15 &&& (v15 - 1)))) (fun t21 => (f_J13_numberOfTrailingZeros_95d88 v15).bind (fun x23 => (f_X0_goesDeeper t21 b2 x23).bind (fun x26 => match x26 with | (v28, t29) => (if v28 = 0 then (if b1 = 0 then bnd (b4 + 1 : Int32) (fun v32 => some (.inl ((t29, b2, v19, v32)))) else some (.inr ((1, t29)))) else bnd (b2 + 1 : Int32) (fun v34 => bnd (b4 + 1 : Int32) (fun v36 => some (.inl ((t29, v34, v19, v36)))))))))) else some (.inr ((0, s_t)))))) else none)))
noncomputable def f_X0_seek (st : OS) (a0 : Int32) : Option (OS) := bnd (oI st 8 0) (fun t1 => bnd (oJ t1 9 0) (fun t3 => bnd (oI t3 10 0) (fun t5 => (if (lg_cmp (t5.2.1 3) 0) = 0 then bnd (oI t5 8 1) (fun t48 => some t48) else (f_X0_begin t5 0 0 0 0).bind (fun x8 => (lpv (f_X0_seek_45 a0) ((x8, 0, 0, 0))).bind (fun x42 => match x42 with | (k45, t44) => (if k45 = 0 then bnd (oI t44 10 1) (fun t46 => some t46) else (if k45 = 1 then some t44 else some t44))))))))
set_option maxHeartbeats 4000000 in
set_option maxRecDepth 100000 in
theorem w_X0_seek_45 {p : Program} {l : Launch} {e : Env} {s : State} {m : MethodId} {args : Array Value} {below : List Frame} {meth : Method} {c : Code} {Q : State → Prop} {G : mG} {h : mM} {q : Nat → Nat} (hq : oinj LX0 q) (X : mX G p m c cX0_seek 7 s args RX0) (b1 : Int32) : ∀ (z : OS × Int32 × Int32 × Int32) (r : Nat × OS), lpv (f_X0_seek_45 b1) z = some r → ∀ (H : Heap) (locs : List Loc) (ls : Array Slot), mH G (oset LX0 G q z.1 h) s.heap H locs → lv_has ls 7 [(0, .ref (q 11)), (1, .int b1), (2, .int z.2.1), (3, .int z.2.2.1), (4, .int z.2.2.2)] → (r.1 = 0 → ∀ (H : Heap) (locs : List Loc) (ls : Array Slot), mH G (oset LX0 G q r.2 h) s.heap H locs → lv_has ls 7 [(0, .ref (q 11))] → W p l e rm_X0_seek s m args below meth c H locs 0 0 Q (F0 m 89 ls [])) → (r.1 = 1 → ∀ (H : Heap) (locs : List Loc) (ls : Array Slot), mH G (oset LX0 G q r.2 h) s.heap H locs → lv_has ls 7 [] → W p l e rm_X0_seek s m args below meth c H locs 0 0 Q (F0 m 134 ls [])) → (r.1 = 2 → ∀ (H : Heap) (locs : List Loc) (ls : Array Slot), mH G (oset LX0 G q r.2 h) s.heap H locs → lv_has ls 7 [] → W p l e rm_X0_seek s m args below meth c H locs 0 0 Q (F0 m 141 ls [])) → W p l e rm_X0_seek s m args below meth c H locs 0 0 Q (F0 m 45 ls []) := by
  refine lpv_rec ?_
  intro z r x hF hx H locs ls hH hl K0 K1 K2
  obtain ⟨s_t, b2, b3, b4⟩ := z
  dsimp only [f_X0_seek_45] at hF
  try dsimp only at hH hl
  refine lv_iload X.x X.b (dk DX0_seek_0 30 rfl) (lv_at hl 4 rfl) ?_
  refine lv_ldc (v := 200002) X.x X.b X.ow (X.ts _ kK_X0_78) (dk DX0_seek_0 31 rfl) ?_
  refine lv_icmp_gt (tgt := 141) X.x X.b (dk DX0_seek_0 32 rfl) (by decide) (fun c11 => ?_) (fun c11 => ?_)
  · replace hF := if_t hF c11
    have hr9 := lp_r hF hx
    subst hr9
    exact K2 rfl _ _ _ hH (lv_sub hl [] rfl)
  · replace hF := if_f hF c11
    refine lv_iload_n X.x X.b (dk DX0_seek_0 33 rfl) rfl (lv_at hl 2 rfl) ?_
    refine lv_if_lt (tgt := 141) X.x X.b (dk DX0_seek_0 34 rfl) (by decide) (fun c12 => ?_) (fun c12 => ?_)
    · replace hF := if_t hF c12
      have hr9 := lp_r hF hx
      subst hr9
      exact K2 rfl _ _ _ hH (lv_sub hl [] rfl)
    · replace hF := if_f hF c12
      refine lv_iload_n X.x X.b (dk DX0_seek_0 35 rfl) rfl (lv_at hl 2 rfl) ?_
      refine lv_bipush (v := 64) X.x X.b (dk DX0_seek_0 36 rfl) (by decide) ?_
      refine lv_icmp_gt (tgt := 141) X.x X.b (dk DX0_seek_0 37 rfl) (by decide) (fun c13 => ?_) (fun c13 => ?_)
      · replace hF := if_t hF c13
        have hr9 := lp_r hF hx
        subst hr9
        exact K2 rfl _ _ _ hH (lv_sub hl [] rfl)
      · replace hF := if_f hF c13
        refine lv_aload_n X.x X.b (dk DX0_seek_0 38 rfl) rfl (lv_at hl 0 rfl) ?_
        refine og_getR (t := 1) OX0 X hq hH 4 (by decide) rfl kF_X0_23 (dk DX0_seek_0 39 rfl) ?_
        refine lv_iload_n X.x X.b (dk DX0_seek_0 40 rfl) rfl (lv_at hl 2 rfl) ?_
        obtain ⟨c14, hF⟩ := gd hF
        refine og_lald X hq hH 4 (by decide) rfl (inb_in c14) (dk DX0_seek_0 41 rfl) ?_
        refine lv_topl (fun v15 e16 => ?_)
        replace hF := bnd_e hF e16
        refine lv_lstore (lv' := [(5, .long v15), (0, .ref (q 11)), (1, .int b1), (2, .int b2), (3, .int b3), (4, .int b4)]) X.x X.b (dk DX0_seek_0 42 rfl) hl (by decide) rfl (fun ls hl => ?_)
        replace hl : lv_has ls 7 [(0, .ref (q 11)), (1, .int b1), (2, .int b2), (3, .int b3), (4, .int b4), (5, .long v15)] := lv_sub hl [1, 2, 3, 4, 5, 0] rfl
        refine lv_lload X.x X.b (dk DX0_seek_0 43 rfl) (lv_at hl 5 rfl) ?_
        refine lv_lconst (v := 0) X.x X.b (dk DX0_seek_0 44 rfl) (by decide) ?_
        refine W.lcmp X.x X.b (dk DX0_seek_0 45 rfl) ?_
        refine lv_if_ne (tgt := 83) X.x X.b (dk DX0_seek_0 46 rfl) (by decide) (fun c17 => ?_) (fun c17 => ?_)
        · replace hF := if_f hF c17
          refine lv_iload_n X.x X.b (dk DX0_seek_0 49 rfl) rfl (lv_at hl 3 rfl) ?_
          refine lv_ldc (v := 100000) X.x X.b X.ow (X.ts _ kK_X0_79) (dk DX0_seek_0 50 rfl) ?_
          refine lv_icmp_lt (tgt := 95) X.x X.b (dk DX0_seek_0 51 rfl) (by decide) (fun c18 => ?_) (fun c18 => ?_)
          · replace hF := if_t hF c18
            obtain ⟨v19, e20⟩ : ∃ y : Int32, y = b3 + 1 := ⟨_, rfl⟩
            replace hF := bnd_e hF e20
            refine lv_iinc (v := v19) (lv' := [(3, .int v19), (0, .ref (q 11)), (1, .int b1), (2, .int b2), (4, .int b4), (5, .long v15)]) X.x X.b (dk DX0_seek_0 56 rfl) hl (k := 3) rfl (by rw [e20]; rfl) (by decide) rfl (fun ls hl => ?_)
            replace hl : lv_has ls 7 [(0, .ref (q 11)), (1, .int b1), (2, .int b2), (3, .int v19), (4, .int b4), (5, .long v15)] := lv_sub hl [1, 2, 3, 0, 4, 5] rfl
            refine lv_aload_n X.x X.b (dk DX0_seek_0 57 rfl) rfl (lv_at hl 0 rfl) ?_
            refine og_getR (t := 1) OX0 X hq hH 4 (by decide) rfl kF_X0_23 (dk DX0_seek_0 58 rfl) ?_
            refine lv_iload_n X.x X.b (dk DX0_seek_0 59 rfl) rfl (lv_at hl 2 rfl) ?_
            refine lv_lload X.x X.b (dk DX0_seek_1 0 rfl) (lv_at hl 5 rfl) ?_
            refine lv_lload X.x X.b (dk DX0_seek_1 1 rfl) (lv_at hl 5 rfl) ?_
            refine lv_lconst (v := 1) X.x X.b (dk DX0_seek_1 2 rfl) (by decide) ?_
            refine lv_lsub X.x X.b (dk DX0_seek_1 3 rfl) ?_
            refine lv_land X.x X.b (dk DX0_seek_1 4 rfl) ?_
            refine og_last X hq hH 4 (by decide) rfl (inb_in c14) (dk DX0_seek_1 5 rfl) (fun H locs hH => ?_)
            obtain ⟨t21, e22⟩ : ∃ y, y = oB s_t 4 (vp_updL (s_t.2.2.2 4) (b2 : Int32).toNatClampNeg (v15 &&& (v15 - 1))) := ⟨_, rfl⟩
            rw [← e22] at hH
            replace hF := bnd_e hF e22
            refine lv_aload_n X.x X.b (dk DX0_seek_1 6 rfl) rfl (lv_at hl 0 rfl) ?_
            refine lv_iload_n X.x X.b (dk DX0_seek_1 7 rfl) rfl (lv_at hl 2 rfl) ?_
            refine lv_lload X.x X.b (dk DX0_seek_1 8 rfl) (lv_at hl 5 rfl) ?_
            obtain ⟨x23, e24, hF⟩ := bd hF
            refine mr_ci0 hH ⟨rfl, rfl⟩ (mr_runS (As := [.long v15]) (rest := [.int b2, .ref (q 11)]) X hH (c_J13_numberOfTrailingZeros_95d88 e24) kM_X0_80 kT_J13_numberOfTrailingZeros_95d88 kN_J13 kC_J13_numberOfTrailingZeros_95d88 hd_J13_numberOfTrailingZeros_95d88 ⟨Nat.le_of_ble_eq_true rfl, Nat.le_of_ble_eq_true rfl⟩ rfl hl.1 (Nat.le_of_ble_eq_true rfl) (dk DX0_seek_1 9 rfl) ⟨Nat.zero_le _, Nat.zero_le _⟩) (fun r h1 H locs hp hH => ?_)
            obtain ⟨hr1, hr2⟩ := hp; rw [hr1]; rw [hr2] at hH; clear hr1 hr2
            obtain ⟨x26, e27, hF⟩ := bd hF
            refine mr_ci0 hH ⟨rfl, rfl⟩ (mr_runV (As := [.int b2, .int x23]) (rest := []) X hH (c_X0_goesDeeper hq e27) ((oset_at hq (Nat.le_refl _) ohas_N).trans (congrArg some ocell_N)) OX0.1 kM_X0_86 kI_X0_goesDeeper kS_X0_goesDeeper kN_X0 kC_X0_goesDeeper hd_X0_goesDeeper ⟨Nat.le_of_ble_eq_true rfl, Nat.le_of_ble_eq_true rfl⟩ rfl hl.1 (Nat.le_of_ble_eq_true rfl) (dk DX0_seek_1 10 rfl) ⟨Nat.zero_le _, Nat.zero_le _⟩) (fun r h1 H locs hp hH => ?_)
            obtain ⟨hr1, hr2⟩ := hp; rw [hr1]; rw [hr2] at hH; clear hr1 hr2
            obtain ⟨v28, t29⟩ := x26
            try dsimp only at hF hH ⊢
            refine lv_if_eq (tgt := 130) X.x X.b (dk DX0_seek_1 11 rfl) (by decide) (fun c30 => ?_) (fun c30 => ?_)
            · replace hF := if_t hF c30
              refine lv_iload_n X.x X.b (dk DX0_seek_1 14 rfl) rfl (lv_at hl 1 rfl) ?_
              refine lv_if_eq (tgt := 135) X.x X.b (dk DX0_seek_1 15 rfl) (by decide) (fun c31 => ?_) (fun c31 => ?_)
              · replace hF := if_t hF c31
                obtain ⟨v32, e33⟩ : ∃ y : Int32, y = b4 + 1 := ⟨_, rfl⟩
                replace hF := bnd_e hF e33
                refine lv_iinc (v := v32) (lv' := [(4, .int v32), (0, .ref (q 11)), (1, .int b1), (2, .int b2), (3, .int v19), (5, .long v15)]) X.x X.b (dk DX0_seek_1 17 rfl) hl (k := 4) rfl (by rw [e33]; rfl) (by decide) rfl (fun ls hl => ?_)
                replace hl : lv_has ls 7 [(0, .ref (q 11)), (1, .int b1), (2, .int b2), (3, .int v19), (4, .int v32)] := lv_sub hl [1, 2, 3, 4, 0] rfl
                refine lv_goto (tgt := 45) X.x X.b (dk DX0_seek_1 18 rfl) (by decide) ?_
                exact (lp_l hF hx) _ _ _ hH (lv_sub hl [0, 1, 2, 3, 4] rfl) K0 K1 K2
              · replace hF := if_f hF c31
                have hr9 := lp_r hF hx
                subst hr9
                exact K1 rfl _ _ _ hH (lv_sub hl [] rfl)
            · replace hF := if_f hF c30
              obtain ⟨v34, e35⟩ : ∃ y : Int32, y = b2 + 1 := ⟨_, rfl⟩
              replace hF := bnd_e hF e35
              refine lv_iinc (v := v34) (lv' := [(2, .int v34), (0, .ref (q 11)), (1, .int b1), (3, .int v19), (4, .int b4), (5, .long v15)]) X.x X.b (dk DX0_seek_1 12 rfl) hl (k := 2) rfl (by rw [e35]; rfl) (by decide) rfl (fun ls hl => ?_)
              replace hl : lv_has ls 7 [(0, .ref (q 11)), (1, .int b1), (2, .int v34), (3, .int v19), (4, .int b4)] := lv_sub hl [1, 2, 0, 3, 4] rfl
              refine lv_goto (tgt := 135) X.x X.b (dk DX0_seek_1 13 rfl) (by decide) ?_
              obtain ⟨v36, e37⟩ : ∃ y : Int32, y = b4 + 1 := ⟨_, rfl⟩
              replace hF := bnd_e hF e37
              refine lv_iinc (v := v36) (lv' := [(4, .int v36), (0, .ref (q 11)), (1, .int b1), (2, .int v34), (3, .int v19)]) X.x X.b (dk DX0_seek_1 17 rfl) hl (k := 4) rfl (by rw [e37]; rfl) (by decide) rfl (fun ls hl => ?_)
              replace hl : lv_has ls 7 [(0, .ref (q 11)), (1, .int b1), (2, .int v34), (3, .int v19), (4, .int v36)] := lv_sub hl [1, 2, 3, 4, 0] rfl
              refine lv_goto (tgt := 45) X.x X.b (dk DX0_seek_1 18 rfl) (by decide) ?_
              exact (lp_l hF hx) _ _ _ hH (lv_sub hl [0, 1, 2, 3, 4] rfl) K0 K1 K2
          · replace hF := if_f hF c18
            have hr9 := lp_r hF hx
            subst hr9
            exact K0 rfl _ _ _ hH (lv_sub hl [0] rfl)
        · replace hF := if_t hF c17
          obtain ⟨v38, e39⟩ : ∃ y : Int32, y = b2 + (-1) := ⟨_, rfl⟩
          replace hF := bnd_e hF e39
          refine lv_iinc (v := v38) (lv' := [(2, .int v38), (0, .ref (q 11)), (1, .int b1), (3, .int b3), (4, .int b4), (5, .long v15)]) X.x X.b (dk DX0_seek_0 47 rfl) hl (k := 2) rfl (by rw [e39]; rfl) (by decide) rfl (fun ls hl => ?_)
          replace hl : lv_has ls 7 [(0, .ref (q 11)), (1, .int b1), (2, .int v38), (3, .int b3), (4, .int b4)] := lv_sub hl [1, 2, 0, 3, 4] rfl
          refine lv_goto (tgt := 135) X.x X.b (dk DX0_seek_0 48 rfl) (by decide) ?_
          obtain ⟨v40, e41⟩ : ∃ y : Int32, y = b4 + 1 := ⟨_, rfl⟩
          replace hF := bnd_e hF e41
          refine lv_iinc (v := v40) (lv' := [(4, .int v40), (0, .ref (q 11)), (1, .int b1), (2, .int v38), (3, .int b3)]) X.x X.b (dk DX0_seek_1 17 rfl) hl (k := 4) rfl (by rw [e41]; rfl) (by decide) rfl (fun ls hl => ?_)
          replace hl : lv_has ls 7 [(0, .ref (q 11)), (1, .int b1), (2, .int v38), (3, .int b3), (4, .int v40)] := lv_sub hl [1, 2, 3, 4, 0] rfl
          refine lv_goto (tgt := 45) X.x X.b (dk DX0_seek_1 18 rfl) (by decide) ?_
          exact (lp_l hF hx) _ _ _ hH (lv_sub hl [0, 1, 2, 3, 4] rfl) K0 K1 K2
set_option maxHeartbeats 4000000 in
set_option maxRecDepth 100000 in
theorem c_X0_seek {l : Launch} {G : mG} {h : mM} {q : Nat → Nat} (hq : oinj LX0 q) {st : OS} {a0 : Int32} {x : OS} (hF : f_X0_seek st a0 = some x) : cQ l G yX0_seek cX0_seek 7 none rm_X0_seek [.ref (q 11), .int a0] (oset LX0 G q st h) (mQv G (fun h1 => h1 = oset LX0 G q x h)) := by
  refine mp_of (by decide +kernel) (Nat.le_of_ble_eq_true rfl) ?_
  intro p e s m below meth c X hr hlk hH hname ls hl
  dsimp only [f_X0_seek] at hF
  replace hl : lv_has ls 7 [(0, .ref (q 11)), (1, .int a0)] := hl
  refine lv_aload_n X.x X.b (dk DX0_seek_0 0 rfl) rfl (lv_at hl 0 rfl) ?_
  refine lv_iconst (v := 0) X.x X.b (dk DX0_seek_0 1 rfl) (by decide) ?_
  refine og_putI OX0 X hq hH 8 (by decide) rfl kF_X0_64 rfl rfl rfl (dk DX0_seek_0 2 rfl) (fun H locs hH => ?_)
  obtain ⟨t1, e2⟩ : ∃ y, y = oI st 8 0 := ⟨_, rfl⟩
  rw [← e2] at hH
  replace hF := bnd_e hF e2
  refine lv_aload_n X.x X.b (dk DX0_seek_0 3 rfl) rfl (lv_at hl 0 rfl) ?_
  refine lv_lconst (v := 0) X.x X.b (dk DX0_seek_0 4 rfl) (by decide) ?_
  refine og_putJ OX0 X hq hH 9 (by decide) rfl kF_X0_67 rfl rfl rfl (dk DX0_seek_0 5 rfl) (fun H locs hH => ?_)
  obtain ⟨t3, e4⟩ : ∃ y, y = oJ t1 9 0 := ⟨_, rfl⟩
  rw [← e4] at hH
  replace hF := bnd_e hF e4
  refine lv_aload_n X.x X.b (dk DX0_seek_0 6 rfl) rfl (lv_at hl 0 rfl) ?_
  refine lv_iconst (v := 0) X.x X.b (dk DX0_seek_0 7 rfl) (by decide) ?_
  refine og_putI OX0 X hq hH 10 (by decide) rfl kF_X0_70 rfl rfl rfl (dk DX0_seek_0 8 rfl) (fun H locs hH => ?_)
  obtain ⟨t5, e6⟩ : ∃ y, y = oI t3 10 0 := ⟨_, rfl⟩
  rw [← e6] at hH
  replace hF := bnd_e hF e6
  refine lv_aload_n X.x X.b (dk DX0_seek_0 9 rfl) rfl (lv_at hl 0 rfl) ?_
  refine og_getJ OX0 X hq hH 3 (by decide) rfl kF_X0_43 (dk DX0_seek_0 10 rfl) ?_
  refine lv_lconst (v := 0) X.x X.b (dk DX0_seek_0 11 rfl) (by decide) ?_
  refine W.lcmp X.x X.b (dk DX0_seek_0 12 rfl) ?_
  refine lv_if_ne (tgt := 30) X.x X.b (dk DX0_seek_0 13 rfl) (by decide) (fun c7 => ?_) (fun c7 => ?_)
  · replace hF := if_f hF c7
    refine lv_aload_n X.x X.b (dk DX0_seek_0 18 rfl) rfl (lv_at hl 0 rfl) ?_
    refine lv_iconst (v := 0) X.x X.b (dk DX0_seek_0 19 rfl) (by decide) ?_
    refine lv_lconst (v := 0) X.x X.b (dk DX0_seek_0 20 rfl) (by decide) ?_
    refine lv_lconst (v := 0) X.x X.b (dk DX0_seek_0 21 rfl) (by decide) ?_
    refine lv_lconst (v := 0) X.x X.b (dk DX0_seek_0 22 rfl) (by decide) ?_
    obtain ⟨x8, e9, hF⟩ := bd hF
    refine mr_cv0 hH ⟨rfl, rfl⟩ (mr_runV (As := [.int 0, .long 0, .long 0, .long 0]) (rest := []) X hH (c_X0_begin hq e9) ((oset_at hq (Nat.le_refl _) ohas_N).trans (congrArg some ocell_N)) OX0.1 kM_X0_74 kI_X0_begin kS_X0_begin kN_X0 kC_X0_begin hd_X0_begin ⟨Nat.le_of_ble_eq_true rfl, Nat.le_of_ble_eq_true rfl⟩ rfl hl.1 (Nat.le_of_ble_eq_true rfl) (dk DX0_seek_0 23 rfl) ⟨Nat.zero_le _, Nat.zero_le _⟩) (fun h1 H locs hp hH => ?_)
    rw [hp] at hH; clear hp
    refine lv_iconst (v := 0) X.x X.b (dk DX0_seek_0 24 rfl) (by decide) ?_
    refine lv_istore_n (lv' := [(2, .int 0), (0, .ref (q 11)), (1, .int a0)]) X.x X.b (dk DX0_seek_0 25 rfl) rfl hl (by decide) rfl (fun ls hl => ?_)
    replace hl : lv_has ls 7 [(0, .ref (q 11)), (1, .int a0), (2, .int 0)] := lv_sub hl [1, 2, 0] rfl
    refine lv_iconst (v := 0) X.x X.b (dk DX0_seek_0 26 rfl) (by decide) ?_
    refine lv_istore_n (lv' := [(3, .int 0), (0, .ref (q 11)), (1, .int a0), (2, .int 0)]) X.x X.b (dk DX0_seek_0 27 rfl) rfl hl (by decide) rfl (fun ls hl => ?_)
    replace hl : lv_has ls 7 [(0, .ref (q 11)), (1, .int a0), (2, .int 0), (3, .int 0)] := lv_sub hl [1, 2, 3, 0] rfl
    refine lv_iconst (v := 0) X.x X.b (dk DX0_seek_0 28 rfl) (by decide) ?_
    refine lv_istore (lv' := [(4, .int 0), (0, .ref (q 11)), (1, .int a0), (2, .int 0), (3, .int 0)]) X.x X.b (dk DX0_seek_0 29 rfl) hl (by decide) rfl (fun ls hl => ?_)
    replace hl : lv_has ls 7 [(0, .ref (q 11)), (1, .int a0), (2, .int 0), (3, .int 0), (4, .int 0)] := lv_sub hl [1, 2, 3, 4, 0] rfl
    obtain ⟨x42, e43, hF⟩ := bd hF
    replace hl : lv_has ls 7 [(0, .ref (q 11)), (1, .int a0), (2, .int 0), (3, .int 0), (4, .int 0)] := lv_sub hl [0, 1, 2, 3, 4] rfl
    obtain ⟨k45, t44⟩ := x42
    try dsimp only at hF
    refine w_X0_seek_45 hq X a0 _ _ e43 _ _ _ hH hl (fun hk H locs ls hH hl => ?_) (fun hk H locs ls hH hl => ?_) (fun hk H locs ls hH hl => ?_)
    · try dsimp only at hH hl
      try dsimp only at hk
      subst hk
      replace hF := if_t hF rfl
      refine lv_aload_n X.x X.b (dk DX0_seek_0 52 rfl) rfl (lv_at hl 0 rfl) ?_
      refine lv_iconst (v := 1) X.x X.b (dk DX0_seek_0 53 rfl) (by decide) ?_
      refine og_putI OX0 X hq hH 10 (by decide) rfl kF_X0_70 rfl rfl rfl (dk DX0_seek_0 54 rfl) (fun H locs hH => ?_)
      obtain ⟨t46, e47⟩ : ∃ y, y = oI t44 10 1 := ⟨_, rfl⟩
      rw [← e47] at hH
      replace hF := bnd_e hF e47
      cases sm hF
      exact mr_vret X hr hlk hH rfl (dk DX0_seek_0 55 rfl)
    · try dsimp only at hH hl
      try dsimp only at hk
      subst hk
      replace hF := if_f hF (by decide)
      replace hF := if_t hF rfl
      cases sm hF
      exact mr_vret X hr hlk hH rfl (dk DX0_seek_1 16 rfl)
    · try dsimp only at hH hl
      try dsimp only at hk
      subst hk
      replace hF := if_f hF (by decide)
      replace hF := if_f hF (by decide)
      cases sm hF
      exact mr_vret X hr hlk hH rfl (dk DX0_seek_1 19 rfl)
  · replace hF := if_t hF c7
    refine lv_aload_n X.x X.b (dk DX0_seek_0 14 rfl) rfl (lv_at hl 0 rfl) ?_
    refine lv_iconst (v := 1) X.x X.b (dk DX0_seek_0 15 rfl) (by decide) ?_
    refine og_putI OX0 X hq hH 8 (by decide) rfl kF_X0_64 rfl rfl rfl (dk DX0_seek_0 16 rfl) (fun H locs hH => ?_)
    obtain ⟨t48, e49⟩ : ∃ y, y = oI t5 8 1 := ⟨_, rfl⟩
    rw [← e49] at hH
    replace hF := bnd_e hF e49
    cases sm hF
    exact mr_vret X hr hlk hH rfl (dk DX0_seek_0 17 rfl)
