theorem hd_X11_init : mHd yX11_init 0 := ⟨by decide +kernel, by decide +kernel, by decide +kernel⟩
theorem DX11_init_0 : ∀ t ∈ ([(0, .aload_n 0, 1), (1, .invokespecial 1, 3), (4, .aload_n 0, 1), (5, .new 7, 3), (8, .dup, 1), (9, .invokespecial 9, 3), (12, .putfield 10, 3), (15, .aload_n 0, 1), (16, .new 16, 3), (19, .dup, 1), (20, .invokespecial 18, 3), (23, .putfield 19, 3), (26, .aload_n 0, 1), (27, .new 16, 3), (30, .dup, 1), (31, .invokespecial 18, 3), (34, .putfield 23, 3), (37, .aload_n 0, 1), (38, .new 26, 3), (41, .dup, 1), (42, .invokespecial 28, 3), (45, .putfield 29, 3), (48, .aload_n 0, 1), (49, .iconst 3, 1), (50, .anewarray 16, 3), (53, .putfield 33, 3), (56, .aload_n 0, 1), (57, .iconst 4, 1), (58, .anewarray 37, 3), (61, .putfield 39, 3), (64, .aload_n 0, 1), (65, .new 43, 3), (68, .dup, 1), (69, .invokespecial 45, 3), (72, .putfield 46, 3), (75, .aload_n 0, 1), (76, .new 50, 3), (79, .dup, 1), (80, .invokespecial 52, 3), (83, .putfield 53, 3), (86, .aload_n 0, 1), (87, .new 57, 3), (90, .dup, 1), (91, .invokespecial 59, 3), (94, .putfield 60, 3), (97, .aload_n 0, 1), (98, .new 64, 3), (101, .dup, 1), (102, .invokespecial 66, 3), (105, .putfield 67, 3), (108, .return_, 1)] : List (Nat × Instr × Nat)), decode cX11_init t.1 = .ok (t.2.1, t.2.2) := by decide +kernel
abbrev rm_X11_init : Room := { frames := 3, cells := 52, slots := 9079, locals := 100 }
def S11 (G : mG) (x : OS) (es : List Ent) (q : Nat → Nat) : Prop := ∃ (qr qm qn qd qh qc qw qk qu : Nat → Nat) (xi xt : Nat), es = [.inl (LX8, qu, stX8), .inl (LX4, qk, stX4), .inl (LX9, qw, stX9), .inl (LX0, qc, stX0), .inr (xt, aQ G 5 4 (fun _ => none)), .inr (xi, aQ G 4 3 (fun _ => none)), .inl (LX1, qh, os0), .inr (qh 1, aQ G 4 20 (fun _ => none)), .inr (qh 0, aQ G 4 20 (fun _ => none)), .inl (LX10, qd, stX10), .inl (LX10, qn, stX10), .inl (LX5, qr, stX5), .inl (LX3, qm, x)] ∧ (oinj LX5 qr ∧ oinj LX3 qm ∧ oinj LX10 qn ∧ oinj LX10 qd ∧ oinj LX1 qh ∧ oinj LX0 qc ∧ oinj LX9 qw ∧ oinj LX4 qk ∧ oinj LX8 qu) ∧
  (q 0 = qr 10 ∧ q 1 = qn 5 ∧ q 2 = qd 5 ∧ q 3 = qh 4 ∧ q 4 = xi ∧ q 5 = xt ∧ q 6 = qc 11 ∧ q 7 = qw 7 ∧ q 8 = qk 3 ∧ q 9 = qu 15) ∧ qr 0 = qm 3
set_option maxHeartbeats 8000000 in
set_option maxRecDepth 100000 in
theorem c_X11_init {l : Launch} {G : mG} {h : mM} {a : Nat} {x : OS} (hX : f_X3_init = some x) (ha : h a = some (.inr (9, dflt LX11))) : cQ l G yX11_init cX11_init 1 none rm_X11_init [.ref a] h (mQv G (newP LX11 G os0 (S11 G x) a h)) := by
  refine mp_of (by decide +kernel) (Nat.le_of_ble_eq_true rfl) ?_
  intro p e s m below meth c X hr hlk hH hname ls hl
  replace hl : lv_has ls 1 [(0, .ref a)] := hl
  have hB : Bl LX11 G a (lay G [] h) h [] [] (fun _ => 0) os0 ∧ freshs G [] h := ⟨Bl.start (L := LX11) (G := G) (fun _ => 0) ha, trivial⟩
  refine lv_aload_n X.x X.b (dk DX11_init_0 0 rfl) rfl (lv_at hl 0 rfl) ?_
  refine mr_objInit X hl.1 kM_X11_1 kI_bjectInit kC_bjectInit (dk DX11_init_0 1 rfl) (Nat.le_of_ble_eq_true rfl) (Nat.le_of_ble_eq_true rfl) ?_
  obtain ⟨hB, hF⟩ := hB
  refine lv_aload_n X.x X.b (dk DX11_init_0 2 rfl) rfl (lv_at hl 0 rfl) ?_
  refine mr_mk (L := LX5) (st := stX5) (S := (S5 x)) (fun _ _ _ z => z) X hH hinX5 tyX5_ok rfl kL_X11_7 kB_X5 kN_X5 dfl_X5 (fun x9 h9 hx9 => c_X5_init hX hx9) kMN_X11_9 kI_X5_init kN_X5 kC_X5_init rfl hd_X5_init ⟨(Nat.le_of_ble_eq_true rfl), (Nat.le_of_ble_eq_true rfl)⟩ hl.1 (Nat.le_of_ble_eq_true rfl) (Nat.le_of_ble_eq_true rfl) (Nat.le_of_ble_eq_true rfl) ⟨(Nat.le_of_ble_eq_true rfl), (Nat.le_of_ble_eq_true rfl)⟩ (dk DX11_init_0 3 rfl) (dk DX11_init_0 4 rfl) (dk DX11_init_0 5 rfl) (fun qr es H locs hS hir hf hH => ?_)
  obtain ⟨qm, hS, him, hrm⟩ := hS
  subst hS
  obtain ⟨hB, hF⟩ := Bl.lays ⟨hB, hF⟩ _ hf
  replace hB := hB.setq 0 (qr LX5.2.1) (by decide) (by decide)
  refine mr_putF X hH hB.1 hinX11 tyX11 tyX11_ok nmX11 rfl 0 (by decide) kF_X11_10 rfl hname rfl rfl rfl (by rw [pfs_len]; decide) (dk DX11_init_0 6 rfl) (fun H locs hH => ?_)
  obtain ⟨M, hH, hB⟩ := lump hH (hB.ref (k := 0) (t := 4) rfl (by simp [va_up]))
  refine lv_aload_n X.x X.b (dk DX11_init_0 7 rfl) rfl (lv_at hl 0 rfl) ?_
  refine mr_mk (L := LX10) (st := stX10) (S := (fun es _ => es = [])) (fun _ _ _ z => newP.simple z) X hH hinX10 tyX10_ok rfl kL_X11_16 kB_X10 kN_X10 dfl_X10 (fun x9 h9 hx9 => c_X10_init hx9) kMN_X11_18 kI_X10_init kN_X10 kC_X10_init rfl hd_X10_init ⟨(Nat.le_of_ble_eq_true rfl), (Nat.le_of_ble_eq_true rfl)⟩ hl.1 (Nat.le_of_ble_eq_true rfl) (Nat.le_of_ble_eq_true rfl) (Nat.le_of_ble_eq_true rfl) ⟨(Nat.le_of_ble_eq_true rfl), (Nat.le_of_ble_eq_true rfl)⟩ (dk DX11_init_0 8 rfl) (dk DX11_init_0 9 rfl) (dk DX11_init_0 10 rfl) (fun qn es H locs hS hin hf hH => ?_)
  have hS : es = [] := hS
  subst hS
  obtain ⟨hB, hF⟩ := Bl.lays ⟨hB, hF⟩ _ hf
  replace hB := hB.setq 1 (qn LX10.2.1) (by decide) (by decide)
  refine mr_putF X hH hB.1 hinX11 tyX11 tyX11_ok nmX11 rfl 1 (by decide) kF_X11_19 rfl hname rfl rfl rfl (by rw [pfs_len]; decide) (dk DX11_init_0 11 rfl) (fun H locs hH => ?_)
  obtain ⟨M, hH, hB⟩ := lump hH (hB.ref (k := 1) (t := 4) rfl (by simp [va_up]))
  refine lv_aload_n X.x X.b (dk DX11_init_0 12 rfl) rfl (lv_at hl 0 rfl) ?_
  refine mr_mk (L := LX10) (st := stX10) (S := (fun es _ => es = [])) (fun _ _ _ z => newP.simple z) X hH hinX10 tyX10_ok rfl kL_X11_16 kB_X10 kN_X10 dfl_X10 (fun x9 h9 hx9 => c_X10_init hx9) kMN_X11_18 kI_X10_init kN_X10 kC_X10_init rfl hd_X10_init ⟨(Nat.le_of_ble_eq_true rfl), (Nat.le_of_ble_eq_true rfl)⟩ hl.1 (Nat.le_of_ble_eq_true rfl) (Nat.le_of_ble_eq_true rfl) (Nat.le_of_ble_eq_true rfl) ⟨(Nat.le_of_ble_eq_true rfl), (Nat.le_of_ble_eq_true rfl)⟩ (dk DX11_init_0 13 rfl) (dk DX11_init_0 14 rfl) (dk DX11_init_0 15 rfl) (fun qd es H locs hS hid hf hH => ?_)
  have hS : es = [] := hS
  subst hS
  obtain ⟨hB, hF⟩ := Bl.lays ⟨hB, hF⟩ _ hf
  replace hB := hB.setq 2 (qd LX10.2.1) (by decide) (by decide)
  refine mr_putF X hH hB.1 hinX11 tyX11 tyX11_ok nmX11 rfl 2 (by decide) kF_X11_23 rfl hname rfl rfl rfl (by rw [pfs_len]; decide) (dk DX11_init_0 16 rfl) (fun H locs hH => ?_)
  obtain ⟨M, hH, hB⟩ := lump hH (hB.ref (k := 2) (t := 4) rfl (by simp [va_up]))
  refine lv_aload_n X.x X.b (dk DX11_init_0 17 rfl) rfl (lv_at hl 0 rfl) ?_
  refine mr_mk (L := LX1) (st := os0) (S := (S1 G)) (fun _ _ _ z => z) X hH hinX1 tyX1_ok rfl kL_X11_26 kB_X1 kN_X1 dfl_X1 (fun x9 h9 hx9 => c_X1_init hx9) kMN_X11_28 kI_X1_init kN_X1 kC_X1_init rfl hd_X1_init ⟨(Nat.le_of_ble_eq_true rfl), (Nat.le_of_ble_eq_true rfl)⟩ hl.1 (Nat.le_of_ble_eq_true rfl) (Nat.le_of_ble_eq_true rfl) (Nat.le_of_ble_eq_true rfl) ⟨(Nat.le_of_ble_eq_true rfl), (Nat.le_of_ble_eq_true rfl)⟩ (dk DX11_init_0 18 rfl) (dk DX11_init_0 19 rfl) (dk DX11_init_0 20 rfl) (fun qh es H locs hS hih hf hH => ?_)
  have hS : es = [.inr (qh 1, aQ G 4 20 (fun _ => none)), .inr (qh 0, aQ G 4 20 (fun _ => none))] := hS
  subst hS
  obtain ⟨hB, hF⟩ := Bl.lays ⟨hB, hF⟩ _ hf
  replace hB := hB.setq 3 (qh LX1.2.1) (by decide) (by decide)
  refine mr_putF X hH hB.1 hinX11 tyX11 tyX11_ok nmX11 rfl 3 (by decide) kF_X11_29 rfl hname rfl rfl rfl (by rw [pfs_len]; decide) (dk DX11_init_0 21 rfl) (fun H locs hH => ?_)
  obtain ⟨M, hH, hB⟩ := lump hH (hB.ref (k := 3) (t := 4) rfl (by simp [va_up]))
  refine lv_aload_n X.x X.b (dk DX11_init_0 22 rfl) rfl (lv_at hl 0 rfl) ?_
  refine lv_iconst (v := 3) X.x X.b (dk DX11_init_0 23 rfl) (by decide) ?_
  refine mr_anew (t := 4) (N := 3) X hH kL_X11_16 X.z.2.2.2.2.2.1 rfl (by decide) rfl (by decide) (Nat.le_of_ble_eq_true rfl) (Nat.le_of_ble_eq_true rfl) (dk DX11_init_0 24 rfl) (fun xi H hxi hH => ?_)
  obtain ⟨hB, hF⟩ := Bl.lays ⟨hB, hF⟩ [.inr (xi, aQ G 4 3 (fun _ => none))] ⟨trivial, fun y hy => by cases hy; exact hxi⟩
  replace hB := hB.setq 4 xi (by decide) (by decide)
  refine mr_putF X hH hB.1 hinX11 tyX11 tyX11_ok nmX11 rfl 4 (by decide) kF_X11_33 rfl hname rfl rfl rfl (by rw [pfs_len]; decide) (dk DX11_init_0 25 rfl) (fun H locs hH => ?_)
  obtain ⟨M, hH, hB⟩ := lump hH (hB.ref (k := 4) (t := 4) rfl (by simp [va_up]))
  refine lv_aload_n X.x X.b (dk DX11_init_0 26 rfl) rfl (lv_at hl 0 rfl) ?_
  refine lv_iconst (v := 4) X.x X.b (dk DX11_init_0 27 rfl) (by decide) ?_
  refine mr_anew (t := 5) (N := 4) X hH kL_X11_37 X.z.2.2.2.2.2.2.1 rfl (by decide) rfl (by decide) (Nat.le_of_ble_eq_true rfl) (Nat.le_of_ble_eq_true rfl) (dk DX11_init_0 28 rfl) (fun xt H hxt hH => ?_)
  obtain ⟨hB, hF⟩ := Bl.lays ⟨hB, hF⟩ [.inr (xt, aQ G 5 4 (fun _ => none))] ⟨trivial, fun y hy => by cases hy; exact hxt⟩
  replace hB := hB.setq 5 xt (by decide) (by decide)
  refine mr_putF X hH hB.1 hinX11 tyX11 tyX11_ok nmX11 rfl 5 (by decide) kF_X11_39 rfl hname rfl rfl rfl (by rw [pfs_len]; decide) (dk DX11_init_0 29 rfl) (fun H locs hH => ?_)
  obtain ⟨M, hH, hB⟩ := lump hH (hB.ref (k := 5) (t := 4) rfl (by simp [va_up]))
  refine lv_aload_n X.x X.b (dk DX11_init_0 30 rfl) rfl (lv_at hl 0 rfl) ?_
  refine mr_mk (L := LX0) (st := stX0) (S := (fun es _ => es = [])) (fun _ _ _ z => newP.simple z) X hH hinX0 tyX0_ok rfl kL_X11_43 kB_X0 kN_X0 dfl_X0 (fun x9 h9 hx9 => c_X0_init hx9) kMN_X11_45 kI_X0_init kN_X0 kC_X0_init rfl hd_X0_init ⟨(Nat.le_of_ble_eq_true rfl), (Nat.le_of_ble_eq_true rfl)⟩ hl.1 (Nat.le_of_ble_eq_true rfl) (Nat.le_of_ble_eq_true rfl) (Nat.le_of_ble_eq_true rfl) ⟨(Nat.le_of_ble_eq_true rfl), (Nat.le_of_ble_eq_true rfl)⟩ (dk DX11_init_0 31 rfl) (dk DX11_init_0 32 rfl) (dk DX11_init_0 33 rfl) (fun qc es H locs hS hic hf hH => ?_)
  have hS : es = [] := hS
  subst hS
  obtain ⟨hB, hF⟩ := Bl.lays ⟨hB, hF⟩ _ hf
  replace hB := hB.setq 6 (qc LX0.2.1) (by decide) (by decide)
  refine mr_putF X hH hB.1 hinX11 tyX11 tyX11_ok nmX11 rfl 6 (by decide) kF_X11_46 rfl hname rfl rfl rfl (by rw [pfs_len]; decide) (dk DX11_init_0 34 rfl) (fun H locs hH => ?_)
  obtain ⟨M, hH, hB⟩ := lump hH (hB.ref (k := 6) (t := 4) rfl (by simp [va_up]))
  refine lv_aload_n X.x X.b (dk DX11_init_0 35 rfl) rfl (lv_at hl 0 rfl) ?_
  refine mr_mk (L := LX9) (st := stX9) (S := (fun es _ => es = [])) (fun _ _ _ z => newP.simple z) X hH hinX9 tyX9_ok rfl kL_X11_50 kB_X9 kN_X9 dfl_X9 (fun x9 h9 hx9 => c_X9_init hx9) kMN_X11_52 kI_X9_init kN_X9 kC_X9_init rfl hd_X9_init ⟨(Nat.le_of_ble_eq_true rfl), (Nat.le_of_ble_eq_true rfl)⟩ hl.1 (Nat.le_of_ble_eq_true rfl) (Nat.le_of_ble_eq_true rfl) (Nat.le_of_ble_eq_true rfl) ⟨(Nat.le_of_ble_eq_true rfl), (Nat.le_of_ble_eq_true rfl)⟩ (dk DX11_init_0 36 rfl) (dk DX11_init_0 37 rfl) (dk DX11_init_0 38 rfl) (fun qw es H locs hS hiw hf hH => ?_)
  have hS : es = [] := hS
  subst hS
  obtain ⟨hB, hF⟩ := Bl.lays ⟨hB, hF⟩ _ hf
  replace hB := hB.setq 7 (qw LX9.2.1) (by decide) (by decide)
  refine mr_putF X hH hB.1 hinX11 tyX11 tyX11_ok nmX11 rfl 7 (by decide) kF_X11_53 rfl hname rfl rfl rfl (by rw [pfs_len]; decide) (dk DX11_init_0 39 rfl) (fun H locs hH => ?_)
  obtain ⟨M, hH, hB⟩ := lump hH (hB.ref (k := 7) (t := 4) rfl (by simp [va_up]))
  refine lv_aload_n X.x X.b (dk DX11_init_0 40 rfl) rfl (lv_at hl 0 rfl) ?_
  refine mr_mk (L := LX4) (st := stX4) (S := (fun es _ => es = [])) (fun _ _ _ z => newP.simple z) X hH hinX4 tyX4_ok rfl kL_X11_57 kB_X4 kN_X4 dfl_X4 (fun x9 h9 hx9 => c_X4_init hx9) kMN_X11_59 kI_X4_init kN_X4 kC_X4_init rfl hd_X4_init ⟨(Nat.le_of_ble_eq_true rfl), (Nat.le_of_ble_eq_true rfl)⟩ hl.1 (Nat.le_of_ble_eq_true rfl) (Nat.le_of_ble_eq_true rfl) (Nat.le_of_ble_eq_true rfl) ⟨(Nat.le_of_ble_eq_true rfl), (Nat.le_of_ble_eq_true rfl)⟩ (dk DX11_init_0 41 rfl) (dk DX11_init_0 42 rfl) (dk DX11_init_0 43 rfl) (fun qk es H locs hS hik hf hH => ?_)
  have hS : es = [] := hS
  subst hS
  obtain ⟨hB, hF⟩ := Bl.lays ⟨hB, hF⟩ _ hf
  replace hB := hB.setq 8 (qk LX4.2.1) (by decide) (by decide)
  refine mr_putF X hH hB.1 hinX11 tyX11 tyX11_ok nmX11 rfl 8 (by decide) kF_X11_60 rfl hname rfl rfl rfl (by rw [pfs_len]; decide) (dk DX11_init_0 44 rfl) (fun H locs hH => ?_)
  obtain ⟨M, hH, hB⟩ := lump hH (hB.ref (k := 8) (t := 4) rfl (by simp [va_up]))
  refine lv_aload_n X.x X.b (dk DX11_init_0 45 rfl) rfl (lv_at hl 0 rfl) ?_
  refine mr_mk (L := LX8) (st := stX8) (S := (fun es _ => es = [])) (fun _ _ _ z => newP.simple z) X hH hinX8 tyX8_ok rfl kL_X11_64 kB_X8 kN_X8 dfl_X8 (fun x9 h9 hx9 => c_X8_init hx9) kMN_X11_66 kI_X8_init kN_X8 kC_X8_init rfl hd_X8_init ⟨(Nat.le_of_ble_eq_true rfl), (Nat.le_of_ble_eq_true rfl)⟩ hl.1 (Nat.le_of_ble_eq_true rfl) (Nat.le_of_ble_eq_true rfl) (Nat.le_of_ble_eq_true rfl) ⟨(Nat.le_of_ble_eq_true rfl), (Nat.le_of_ble_eq_true rfl)⟩ (dk DX11_init_0 46 rfl) (dk DX11_init_0 47 rfl) (dk DX11_init_0 48 rfl) (fun qu es H locs hS hiu hf hH => ?_)
  have hS : es = [] := hS
  subst hS
  obtain ⟨hB, hF⟩ := Bl.lays ⟨hB, hF⟩ _ hf
  replace hB := hB.setq 9 (qu LX8.2.1) (by decide) (by decide)
  refine mr_putF X hH hB.1 hinX11 tyX11 tyX11_ok nmX11 rfl 9 (by decide) kF_X11_67 rfl hname rfl rfl rfl (by rw [pfs_len]; decide) (dk DX11_init_0 49 rfl) (fun H locs hH => ?_)
  obtain ⟨M, hH, hB⟩ := lump hH (hB.ref (k := 9) (t := 4) rfl (by simp [va_up]))
  obtain ⟨hM, hq, hnew⟩ := hB.done (by decide +kernel)
  subst hM
  exact mr_vret X hr hlk hH ⟨_, _, ⟨qr, qm, qn, qd, qh, qc, qw, qk, qu, xi, xt, rfl, ⟨hir, him, hin, hid, hih, hic, hiw, hik, hiu⟩, by simp [va_up, LX11, LX5, LX10, LX1, LX0, LX9, LX4, LX8], hrm⟩, va_up_s, rfl, hq, hF, hnew⟩ (dk DX11_init_0 50 rfl)
