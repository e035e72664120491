-- X10_hyperOf
abbrev rm_X10_hyperOf : Room := { frames := 3, cells := 0, slots := 0, locals := 65 }
theorem hd_X10_hyperOf : mHd yX10_hyperOf 2 := ⟨by decide +kernel, by decide +kernel, by decide +kernel⟩
theorem DX10_hyperOf_0 : ∀ t ∈ ([(0, .iload_n 1, 1), (1, .iload_n 2, 1), (2, .if_icmp .eq 15, 3), (5, .aload_n 0, 1), (6, .iload_n 1, 1), (7, .invokevirtual 78, 3), (10, .iload_n 2, 1), (11, .invokestatic 50, 3), (14, .ifCond .eq 5, 3), (17, .lconst 0, 1), (18, .lreturn, 1), (19, .aload_n 0, 1), (20, .aload_n 0, 1), (21, .lconst 1, 1), (22, .iload_n 1, 1), (23, .lshl, 1), (24, .lconst 1, 1), (25, .iload_n 2, 1), (26, .lshl, 1), (27, .lor, 1), (28, .invokevirtual 94, 3), (31, .invokevirtual 94, 3), (34, .lreturn, 1)] : List (Nat × Instr × Nat)), decode cX10_hyperOf t.1 = .ok (t.2.1, t.2.2) := by decide +kernel
noncomputable def f_X10_hyperOf (st : OS) (a0 : Int32) (a1 : Int32) : Option (Int64) := (if a0 = a1 then some 0 else (f_X10_nearAt st a0).bind (fun x2 => (f_X10_has x2 a1).bind (fun x5 => (if x5 = 0 then (f_X10_acrossFrom st ((((1 : Int64)) <<< ((a0 : Int32).toInt64 &&& 63)) ||| (((1 : Int64)) <<< ((a1 : Int32).toInt64 &&& 63)))).bind (fun x9 => (f_X10_acrossFrom st x9).bind (fun x12 => some x12)) else some 0))))
set_option maxHeartbeats 4000000 in
set_option maxRecDepth 100000 in
theorem c_X10_hyperOf {l : Launch} {G : mG} {h : mM} {q : Nat → Nat} (hq : oinj LX10 q) {st : OS} {a0 : Int32} {a1 : Int32} {x : Int64} (hF : f_X10_hyperOf st a0 a1 = some x) : cQ l G yX10_hyperOf cX10_hyperOf 3 (some FieldType.long) rm_X10_hyperOf [.ref (q 5), .int a0, .int a1] (oset LX10 G q st h) (mQl G (fun r h1 => r = x ∧ h1 = oset LX10 G q st h)) := by
  refine mp_of (by decide +kernel) (Nat.le_of_ble_eq_true rfl) ?_
  intro p e s m below meth c X hr hlk hH hname ls hl
  dsimp only [f_X10_hyperOf] at hF
  replace hl : lv_has ls 3 [(0, .ref (q 5)), (1, .int a0), (2, .int a1)] := hl
  refine lv_iload_n X.x X.b (dk DX10_hyperOf_0 0 rfl) rfl (lv_at hl 1 rfl) ?_
  refine lv_iload_n X.x X.b (dk DX10_hyperOf_0 1 rfl) rfl (lv_at hl 2 rfl) ?_
  refine lv_icmp_eq (tgt := 17) X.x X.b (dk DX10_hyperOf_0 2 rfl) (by decide) (fun c1 => ?_) (fun c1 => ?_)
  · replace hF := if_t hF c1
    refine lv_lconst (v := 0) X.x X.b (dk DX10_hyperOf_0 9 rfl) (by decide) ?_
    cases sm hF
    exact mr_lret X hr hlk hH ⟨rfl, rfl⟩ (dk DX10_hyperOf_0 10 rfl)
  · replace hF := if_f hF c1
    refine lv_aload_n X.x X.b (dk DX10_hyperOf_0 3 rfl) rfl (lv_at hl 0 rfl) ?_
    refine lv_iload_n X.x X.b (dk DX10_hyperOf_0 4 rfl) rfl (lv_at hl 1 rfl) ?_
    obtain ⟨x2, e3, hF⟩ := bd hF
    refine mr_cl0 hH ⟨rfl, rfl⟩ (mr_runV (As := [.int a0]) (rest := []) X hH (c_X10_nearAt hq e3) ((oset_at hq (Nat.le_refl _) ohas_N).trans (congrArg some ocell_N)) OX10.1 kM_X10_78 kI_X10_nearAt kS_X10_nearAt kN_X10 kC_X10_nearAt hd_X10_nearAt ⟨Nat.le_of_ble_eq_true rfl, Nat.le_of_ble_eq_true rfl⟩ rfl hl.1 (Nat.le_of_ble_eq_true rfl) (dk DX10_hyperOf_0 5 rfl) ⟨Nat.zero_le _, Nat.zero_le _⟩) (fun r h1 H locs hp hH => ?_)
    obtain ⟨hr1, hr2⟩ := hp; rw [hr1]; rw [hr2] at hH; clear hr1 hr2
    refine lv_iload_n X.x X.b (dk DX10_hyperOf_0 6 rfl) rfl (lv_at hl 2 rfl) ?_
    obtain ⟨x5, e6, hF⟩ := bd hF
    refine mr_ci0 hH ⟨rfl, rfl⟩ (mr_runS (As := [.long x2, .int a1]) (rest := []) X hH (c_X10_has e6) kM_X10_50 kT_X10_has kN_X10 kC_X10_has hd_X10_has ⟨Nat.le_of_ble_eq_true rfl, Nat.le_of_ble_eq_true rfl⟩ rfl hl.1 (Nat.le_of_ble_eq_true rfl) (dk DX10_hyperOf_0 7 rfl) ⟨Nat.zero_le _, Nat.zero_le _⟩) (fun r h1 H locs hp hH => ?_)
    obtain ⟨hr1, hr2⟩ := hp; rw [hr1]; rw [hr2] at hH; clear hr1 hr2
    refine lv_if_eq (tgt := 19) X.x X.b (dk DX10_hyperOf_0 8 rfl) (by decide) (fun c8 => ?_) (fun c8 => ?_)
    · replace hF := if_t hF c8
      refine lv_aload_n X.x X.b (dk DX10_hyperOf_0 11 rfl) rfl (lv_at hl 0 rfl) ?_
      refine lv_aload_n X.x X.b (dk DX10_hyperOf_0 12 rfl) rfl (lv_at hl 0 rfl) ?_
      refine lv_lconst (v := 1) X.x X.b (dk DX10_hyperOf_0 13 rfl) (by decide) ?_
      refine lv_iload_n X.x X.b (dk DX10_hyperOf_0 14 rfl) rfl (lv_at hl 1 rfl) ?_
      refine lv_lshl X.x X.b (dk DX10_hyperOf_0 15 rfl) rfl ?_
      refine lv_lconst (v := 1) X.x X.b (dk DX10_hyperOf_0 16 rfl) (by decide) ?_
      refine lv_iload_n X.x X.b (dk DX10_hyperOf_0 17 rfl) rfl (lv_at hl 2 rfl) ?_
      refine lv_lshl X.x X.b (dk DX10_hyperOf_0 18 rfl) rfl ?_
      refine lv_lor X.x X.b (dk DX10_hyperOf_0 19 rfl) ?_
      obtain ⟨x9, e10, hF⟩ := bd hF
      refine mr_cl0 hH ⟨rfl, rfl⟩ (mr_runV (As := [.long ((((1 : Int64)) <<< ((a0 : Int32).toInt64 &&& 63)) ||| (((1 : Int64)) <<< ((a1 : Int32).toInt64 &&& 63)))]) (rest := [.ref (q 5)]) X hH (c_X10_acrossFrom hq e10) ((oset_at hq (Nat.le_refl _) ohas_N).trans (congrArg some ocell_N)) OX10.1 kM_X10_94 kI_X10_acrossFrom kS_X10_acrossFrom kN_X10 kC_X10_acrossFrom hd_X10_acrossFrom ⟨Nat.le_of_ble_eq_true rfl, Nat.le_of_ble_eq_true rfl⟩ rfl hl.1 (Nat.le_of_ble_eq_true rfl) (dk DX10_hyperOf_0 20 rfl) ⟨Nat.zero_le _, Nat.zero_le _⟩) (fun r h1 H locs hp hH => ?_)
      obtain ⟨hr1, hr2⟩ := hp; rw [hr1]; rw [hr2] at hH; clear hr1 hr2
      obtain ⟨x12, e13, hF⟩ := bd hF
      refine mr_cl0 hH ⟨rfl, rfl⟩ (mr_runV (As := [.long x9]) (rest := []) X hH (c_X10_acrossFrom hq e13) ((oset_at hq (Nat.le_refl _) ohas_N).trans (congrArg some ocell_N)) OX10.1 kM_X10_94 kI_X10_acrossFrom kS_X10_acrossFrom kN_X10 kC_X10_acrossFrom hd_X10_acrossFrom ⟨Nat.le_of_ble_eq_true rfl, Nat.le_of_ble_eq_true rfl⟩ rfl hl.1 (Nat.le_of_ble_eq_true rfl) (dk DX10_hyperOf_0 21 rfl) ⟨Nat.zero_le _, Nat.zero_le _⟩) (fun r h1 H locs hp hH => ?_)
      obtain ⟨hr1, hr2⟩ := hp; rw [hr1]; rw [hr2] at hH; clear hr1 hr2
      cases sm hF
      exact mr_lret X hr hlk hH ⟨rfl, rfl⟩ (dk DX10_hyperOf_0 22 rfl)
    · replace hF := if_f hF c8
      refine lv_lconst (v := 0) X.x X.b (dk DX10_hyperOf_0 9 rfl) (by decide) ?_
      cases sm hF
      exact mr_lret X hr hlk hH ⟨rfl, rfl⟩ (dk DX10_hyperOf_0 10 rfl)
