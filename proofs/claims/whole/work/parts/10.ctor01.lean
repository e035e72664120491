theorem dfl_X3 : ∀ j, j < 3 → defaultValue (tyX3 j) = vp_V (dflt LX3) j := by
  intro j hj
  rcases j with _ | _ | _ | j
  · rfl
  · rfl
  · rfl
  · omega
theorem dfl_X5 : ∀ j, j < 10 → defaultValue (tyX5 j) = vp_V (dflt LX5) j := by
  intro j hj
  rcases j with _ | _ | _ | _ | _ | _ | _ | _ | _ | _ | j
  · rfl
  · rfl
  · rfl
  · rfl
  · rfl
  · rfl
  · rfl
  · rfl
  · rfl
  · rfl
  · omega
theorem dfl_X10 : ∀ j, j < 5 → defaultValue (tyX10 j) = vp_V (dflt LX10) j := by
  intro j hj
  rcases j with _ | _ | _ | _ | _ | j
  · rfl
  · rfl
  · rfl
  · rfl
  · rfl
  · omega
theorem dfl_X1 : ∀ j, j < 4 → defaultValue (tyX1 j) = vp_V (dflt LX1) j := by
  intro j hj
  rcases j with _ | _ | _ | _ | j
  · rfl
  · rfl
  · rfl
  · rfl
  · omega
theorem dfl_X0 : ∀ j, j < 11 → defaultValue (tyX0 j) = vp_V (dflt LX0) j := by
  intro j hj
  rcases j with _ | _ | _ | _ | _ | _ | _ | _ | _ | _ | _ | j
  · rfl
  · rfl
  · rfl
  · rfl
  · rfl
  · rfl
  · rfl
  · rfl
  · rfl
  · rfl
  · rfl
  · omega
theorem dfl_X9 : ∀ j, j < 7 → defaultValue (tyX9 j) = vp_V (dflt LX9) j := by
  intro j hj
  rcases j with _ | _ | _ | _ | _ | _ | _ | j
  · rfl
  · rfl
  · rfl
  · rfl
  · rfl
  · rfl
  · rfl
  · omega
theorem dfl_X4 : ∀ j, j < 3 → defaultValue (tyX4 j) = vp_V (dflt LX4) j := by
  intro j hj
  rcases j with _ | _ | _ | j
  · rfl
  · rfl
  · rfl
  · omega
theorem dfl_X8 : ∀ j, j < 15 → defaultValue (tyX8 j) = vp_V (dflt LX8) j := by
  intro j hj
  rcases j with _ | _ | _ | _ | _ | _ | _ | _ | _ | _ | _ | _ | _ | _ | _ | j
  · rfl
  · rfl
  · rfl
  · rfl
  · rfl
  · rfl
  · rfl
  · rfl
  · rfl
  · rfl
  · rfl
  · rfl
  · rfl
  · rfl
  · rfl
  · omega
theorem hd_X5_init : mHd yX5_init 0 := ⟨by decide +kernel, by decide +kernel, by decide +kernel⟩
theorem DX5_init_0 : ∀ t ∈ ([(0, .aload_n 0, 1), (1, .invokespecial 3, 3), (4, .aload_n 0, 1), (5, .new 9, 3), (8, .dup, 1), (9, .invokespecial 11, 3), (12, .putfield 12, 3), (15, .aload_n 0, 1), (16, .sipush 700, 3), (19, .newarray .byte, 2), (21, .putfield 18, 3), (24, .aload_n 0, 1), (25, .iconst (-1), 1), (26, .putfield 22, 3), (29, .return_, 1)] : List (Nat × Instr × Nat)), decode cX5_init t.1 = .ok (t.2.1, t.2.2) := by decide +kernel
abbrev rm_X5_init : Room := { frames := 2, cells := 5, slots := 839, locals := 40 }
def S5 (x : OS) (es : List Ent) (q : Nat → Nat) : Prop := ∃ qm : Nat → Nat, es = [.inl (LX3, qm, x)] ∧ oinj LX3 qm ∧ q 0 = qm 3
/-- what a new X5 holds -/
def stX5 : OS := (oI os0 9 (-1))
set_option maxHeartbeats 4000000 in
set_option maxRecDepth 100000 in
theorem c_X5_init {l : Launch} {G : mG} {h : mM} {a : Nat} {x : OS} (hF : f_X3_init = some x) (ha : h a = some (.inr (4, dflt LX5))) : cQ l G yX5_init cX5_init 1 none rm_X5_init [.ref a] h (mQv G (newP LX5 G stX5 (S5 x) a h)) := by
  refine mp_of (by decide +kernel) (Nat.le_of_ble_eq_true rfl) ?_
  intro p e s m below meth c X hr hlk hH hname ls hl
  replace hl : lv_has ls 1 [(0, .ref a)] := hl
  refine lv_aload_n X.x X.b (dk DX5_init_0 0 rfl) rfl (lv_at hl 0 rfl) ?_
  refine mr_objInit X hl.1 kM_X5_3 kI_bjectInit kC_bjectInit (dk DX5_init_0 1 rfl) (Nat.le_of_ble_eq_true rfl) (Nat.le_of_ble_eq_true rfl) ?_
  refine lv_aload_n X.x X.b (dk DX5_init_0 2 rfl) rfl (lv_at hl 0 rfl) ?_
  refine mr_new (ci := 2) X hH hinX3 tyX3 tyX3_ok rfl kL_X5_9 kB_X3 kN_X3 dfl_X3 (Nat.le_of_ble_eq_true rfl) (Nat.le_of_ble_eq_true rfl) (dk DX5_init_0 3 rfl) (fun x1 H hx hH => ?_)
  refine lv_dup X.x X.b (dk DX5_init_0 4 rfl) rfl ?_
  refine mr_cv hH (mr_runI (As := []) (rest := [.ref x1, .ref a]) X hH (c_X3_init hF (by simp [va_up])) kM_X5_11 kI_X3_init kN_X3 kC_X3_init rfl hd_X3_init ⟨Nat.le_of_ble_eq_true rfl, Nat.le_of_ble_eq_true rfl⟩ rfl hl.1 (Nat.le_of_ble_eq_true rfl) (dk DX5_init_0 5 rfl) ⟨Nat.le_of_ble_eq_true rfl, Nat.le_of_ble_eq_true rfl⟩) (fun h1 H locs hp hH => ?_)
  obtain ⟨qm, hqm, hh1, him, hnm⟩ := hp
  have hno := new_off (L := LX3) hx hqm hnm
  rw [hh1, oset_absorb him hqm] at hH
  have ha' : (oset LX3 G qm x h) a = some (.inr (LX5.1, dflt LX5)) := by
    rw [oset_keep (M := h) h (by rw [ha]; exact Option.some_ne_none _) hno]; exact ha
  have hB := Bl.start (L := LX5) (G := G) (fun _ => x1) ha'
  refine mr_putF X hH hB.1 hinX5 tyX5 tyX5_ok nmX5 rfl 0 (by decide) kF_X5_12 rfl hname rfl rfl rfl (by rw [pfs_len]; decide) (dk DX5_init_0 6 rfl) (fun H locs hH => ?_)
  obtain ⟨M, hH, hB⟩ := lump hH (hB.ref (k := 0) (t := 4) rfl rfl)
  refine lv_aload_n X.x X.b (dk DX5_init_0 7 rfl) rfl (lv_at hl 0 rfl) ?_
  refine lv_sipush (v := 700) X.x X.b (dk DX5_init_0 8 rfl) (by decide) ?_
  refine mr_newB (N := 700) X hH kA_FieldTypebyte (by decide) rfl (by decide) (Nat.le_of_ble_eq_true rfl) (Nat.le_of_ble_eq_true rfl) (dk DX5_init_0 9 rfl) (fun x2 H hx2 hH => ?_)
  obtain ⟨M, hH, hB⟩ := lump hH (hB.arr hx2 (k := 1) (by decide) (by decide) (by decide) rfl)
  refine mr_putF X hH hB.1 hinX5 tyX5 tyX5_ok nmX5 rfl 1 (by decide) kF_X5_18 rfl hname rfl rfl rfl (by rw [pfs_len]; decide) (dk DX5_init_0 10 rfl) (fun H locs hH => ?_)
  obtain ⟨M, hH, hB⟩ := lump hH (hB.ref (k := 1) (t := 2) rfl (by simp [va_up]))
  refine lv_aload_n X.x X.b (dk DX5_init_0 11 rfl) rfl (lv_at hl 0 rfl) ?_
  refine lv_iconst (v := (-1)) X.x X.b (dk DX5_init_0 12 rfl) (by decide) ?_
  refine mr_put X hH hB.1 hinX5 tyX5 tyX5_ok nmX5 rfl 9 (by decide) kF_X5_22 rfl rfl rfl (by rw [pfs_len]; decide) (dk DX5_init_0 13 rfl) (fun H locs hH => ?_)
  obtain ⟨M, hH, hB⟩ := lump hH (hB.int (k := 9) rfl)
  obtain ⟨hM, hq, hnew⟩ := hB.done (by decide +kernel)
  subst hM
  exact mr_vret X hr hlk hH ⟨_, [.inl (LX3, qm, x)], ⟨qm, rfl, him, by simp [va_up, hqm, LX5]⟩, va_up_s, rfl, hq, ⟨trivial, fun y hy => by obtain ⟨k, hk, hh, rfl⟩ := hy; exact hno k hk hh⟩, hnew⟩ (dk DX5_init_0 14 rfl)

theorem hd_X1_init : mHd yX1_init 0 := ⟨by decide +kernel, by decide +kernel, by decide +kernel⟩
theorem DX1_init_0 : ∀ t ∈ ([(0, .aload_n 0, 1), (1, .invokespecial 1, 3), (4, .aload_n 0, 1), (5, .bipush 20, 2), (7, .anewarray 9, 3), (10, .putfield 11, 3), (13, .aload_n 0, 1), (14, .bipush 20, 2), (16, .anewarray 9, 3), (19, .putfield 15, 3), (22, .return_, 1)] : List (Nat × Instr × Nat)), decode cX1_init t.1 = .ok (t.2.1, t.2.2) := by decide +kernel
abbrev rm_X1_init : Room := { frames := 1, cells := 2, slots := 40, locals := 12 }
def S1 (G : mG) (es : List Ent) (q : Nat → Nat) : Prop := es = [.inr (q 1, aQ G 4 20 (fun _ => none)), .inr (q 0, aQ G 4 20 (fun _ => none))]
set_option maxHeartbeats 4000000 in
set_option maxRecDepth 100000 in
theorem c_X1_init {l : Launch} {G : mG} {h : mM} {a : Nat} (ha : h a = some (.inr (1, dflt LX1))) : cQ l G yX1_init cX1_init 1 none rm_X1_init [.ref a] h (mQv G (newP LX1 G os0 (S1 G) a h)) := by
  refine mp_of (by decide +kernel) (Nat.le_of_ble_eq_true rfl) ?_
  intro p e s m below meth c X hr hlk hH hname ls hl
  replace hl : lv_has ls 1 [(0, .ref a)] := hl
  have hB : Bl LX1 G a (lay G [] h) h [] [] (fun _ => 0) os0 ∧ freshs G [] h := ⟨Bl.start (L := LX1) (G := G) (fun _ => 0) ha, trivial⟩
  refine lv_aload_n X.x X.b (dk DX1_init_0 0 rfl) rfl (lv_at hl 0 rfl) ?_
  refine mr_objInit X hl.1 kM_X1_1 kI_bjectInit kC_bjectInit (dk DX1_init_0 1 rfl) (Nat.le_of_ble_eq_true rfl) (Nat.le_of_ble_eq_true rfl) ?_
  refine lv_aload_n X.x X.b (dk DX1_init_0 2 rfl) rfl (lv_at hl 0 rfl) ?_
  refine lv_bipush (v := 20) X.x X.b (dk DX1_init_0 3 rfl) (by decide) ?_
  refine mr_anew (t := 4) (N := 20) X hH kL_X1_9 X.z.2.2.2.2.2.1 rfl (by decide) rfl (by decide) (Nat.le_of_ble_eq_true rfl) (Nat.le_of_ble_eq_true rfl) (dk DX1_init_0 4 rfl) (fun x1 H hx hH => ?_)
  obtain ⟨hB, hF⟩ := Bl.lays hB [.inr (x1, aQ G 4 20 (fun _ => none))] ⟨trivial, fun y hy => by cases hy; exact hx⟩
  replace hB := hB.setq 0 x1 (by decide) (by decide)
  refine mr_putF X hH hB.1 hinX1 tyX1 tyX1_ok nmX1 rfl 0 (by decide) kF_X1_11 rfl hname rfl rfl rfl (by rw [pfs_len]; decide) (dk DX1_init_0 5 rfl) (fun H locs hH => ?_)
  obtain ⟨M, hH, hB⟩ := lump hH (hB.ref (k := 0) (t := 4) rfl (by simp [va_up]))
  refine lv_aload_n X.x X.b (dk DX1_init_0 6 rfl) rfl (lv_at hl 0 rfl) ?_
  refine lv_bipush (v := 20) X.x X.b (dk DX1_init_0 7 rfl) (by decide) ?_
  refine mr_anew (t := 4) (N := 20) X hH kL_X1_9 X.z.2.2.2.2.2.1 rfl (by decide) rfl (by decide) (Nat.le_of_ble_eq_true rfl) (Nat.le_of_ble_eq_true rfl) (dk DX1_init_0 8 rfl) (fun x2 H hx2 hH => ?_)
  obtain ⟨hB, hF⟩ := Bl.lays ⟨hB, hF⟩ [.inr (x2, aQ G 4 20 (fun _ => none))] ⟨trivial, fun y hy => by cases hy; exact hx2⟩
  replace hB := hB.setq 1 x2 (by decide) (by decide)
  refine mr_putF X hH hB.1 hinX1 tyX1 tyX1_ok nmX1 rfl 1 (by decide) kF_X1_15 rfl hname rfl rfl rfl (by rw [pfs_len]; decide) (dk DX1_init_0 9 rfl) (fun H locs hH => ?_)
  obtain ⟨M, hH, hB⟩ := lump hH (hB.ref (k := 1) (t := 4) rfl (by simp [va_up]))
  obtain ⟨hM, hq, hnew⟩ := hB.done (by decide +kernel)
  subst hM
  exact mr_vret X hr hlk hH ⟨_, _, by simp [S1, va_up, LX1], va_up_s, rfl, hq, hF, hnew⟩ (dk DX1_init_0 10 rfl)
