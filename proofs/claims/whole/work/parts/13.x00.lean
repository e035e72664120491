theorem kN_ex1 : Cond.initialized (exN 1) ∈ GW := gw_in (of_decide_eq_true (by decide +kernel)) (by decide +kernel)
theorem kN_ex2 : Cond.initialized (exN 2) ∈ GW := gw_in (of_decide_eq_true (by decide +kernel)) (by decide +kernel)
theorem kN_ex3 : Cond.initialized (exN 3) ∈ GW := gw_in (of_decide_eq_true (by decide +kernel)) (by decide +kernel)
theorem kN_ex0 : Cond.initialized NSEn ∈ GW := gw_in (of_decide_eq_true (by decide +kernel)) (by decide +kernel)
theorem exT_X11_87 : exT RX11 87 1 := by
  intro w hw
  have h : (vx_atS RX11 87 (exN 1) ["java/lang/RuntimeException", "java/lang/Exception"]).all (fun w => decide (w ∈ lw_tbl) && (goodWord w || isNest w)) = true := by decide +kernel
  have h1 := List.all_eq_true.mp h w hw
  simp only [Bool.and_eq_true, decide_eq_true_eq, Bool.or_eq_true] at h1
  rcases h1.2 with g | g
  · exact Or.inl (gw_in h1.1 g)
  · exact Or.inr (List.mem_filter.mpr ⟨h1.1, g⟩)
theorem nsT_X11_295 : nsT RX11 295 := by
  intro w hw
  have h : ((nseA RX11 295).filter vx_no).all (fun w => decide (w ∈ lw_tbl) && (goodWord w || isNest w)) = true := by decide +kernel
  have h1 := List.all_eq_true.mp h w hw
  simp only [Bool.and_eq_true, decide_eq_true_eq, Bool.or_eq_true] at h1
  rcases h1.2 with g | g
  · exact Or.inl (gw_in h1.1 g)
  · exact Or.inr (List.mem_filter.mpr ⟨h1.1, g⟩)
theorem exT_X11_307 : exT RX11 307 3 := by
  intro w hw
  have h : (vx_atS RX11 307 (exN 3) ["java/lang/RuntimeException", "java/lang/Exception"]).all (fun w => decide (w ∈ lw_tbl) && (goodWord w || isNest w)) = true := by decide +kernel
  have h1 := List.all_eq_true.mp h w hw
  simp only [Bool.and_eq_true, decide_eq_true_eq, Bool.or_eq_true] at h1
  rcases h1.2 with g | g
  · exact Or.inl (gw_in h1.1 g)
  · exact Or.inr (List.mem_filter.mpr ⟨h1.1, g⟩)
theorem exT_X11_347 : exT RX11 347 2 := by
  intro w hw
  have h : (vx_atS RX11 347 (exN 2) ["java/lang/RuntimeException", "java/lang/Exception"]).all (fun w => decide (w ∈ lw_tbl) && (goodWord w || isNest w)) = true := by decide +kernel
  have h1 := List.all_eq_true.mp h w hw
  simp only [Bool.and_eq_true, decide_eq_true_eq, Bool.or_eq_true] at h1
  rcases h1.2 with g | g
  · exact Or.inl (gw_in h1.1 g)
  · exact Or.inr (List.mem_filter.mpr ⟨h1.1, g⟩)
-- X11_feed
abbrev rm_X11_feed : Room := { frames := 1, cells := 0, slots := 0, locals := 22 }
theorem hd_X11_feed : mHd yX11_feed 5 := ⟨by decide +kernel, by decide +kernel, by decide +kernel⟩
theorem DX11_feed_0 : ∀ t ∈ ([(0, .aload_n 0, 1), (1, .getfield 10, 3), (4, .bipush 20, 2), (6, .invokevirtual 71, 3), (9, .ifCond .ne 5, 3), (12, .iconst (-1), 1), (13, .ireturn, 1), (14, .aload_n 0, 1), (15, .getfield 10, 3), (18, .iload_n 1, 1), (19, .invokevirtual 75, 3), (22, .aload_n 0, 1), (23, .getfield 10, 3), (26, .iload_n 2, 1), (27, .invokevirtual 75, 3), (30, .aload_n 0, 1), (31, .getfield 10, 3), (34, .iload_n 3, 1), (35, .invokevirtual 75, 3), (38, .aload_n 0, 1), (39, .getfield 10, 3), (42, .iload 4, 2), (44, .invokevirtual 75, 3), (47, .aload_n 0, 1), (48, .getfield 10, 3), (51, .iload 5, 2), (53, .invokevirtual 75, 3), (56, .aload_n 0, 1), (57, .getfield 10, 3), (60, .getfield 79, 3), (63, .ireturn, 1)] : List (Nat × Instr × Nat)), decode cX11_feed t.1 = .ok (t.2.1, t.2.2) := by decide +kernel
noncomputable def f_X11_feed (st : OS) (st_r : OS) (st_r_mk : OS) (a0 : Int32) (a1 : Int32) (a2 : Int32) (a3 : Int32) (a4 : Int32) : Option (Int32 × OS) := (f_X5_hasRoomFor st_r st_r_mk 20).bind (fun x1 => (if x1 = 0 then some (((-1), st_r)) else (f_X5_put st_r st_r_mk a0).bind (fun x5 => (f_X5_put x5 st_r_mk a1).bind (fun x8 => (f_X5_put x8 st_r_mk a2).bind (fun x11 => (f_X5_put x11 st_r_mk a3).bind (fun x14 => (f_X5_put x14 st_r_mk a4).bind (fun x17 => some ((x17.1 2, x17)))))))))
set_option maxHeartbeats 4000000 in
set_option maxRecDepth 100000 in
theorem c_X11_feed {l : Launch} {G : mG} {h : mM} {q : Nat → Nat} {q_r : Nat → Nat} {q_r_mk : Nat → Nat} (hq : oinj LX11 q) (hq_r : oinj LX5 q_r) (hq_r_mk : oinj LX3 q_r_mk) (ha : oap [(LX11, q), (LX5, q_r), (LX3, q_r_mk)]) (lk_r : q 0 = q_r 10) (lk_r_mk : q_r 0 = q_r_mk 3) {st : OS} {st_r : OS} {st_r_mk : OS} {a0 : Int32} {a1 : Int32} {a2 : Int32} {a3 : Int32} {a4 : Int32} {x : Int32 × OS} (hF : f_X11_feed st st_r st_r_mk a0 a1 a2 a3 a4 = some x) : cQ l G yX11_feed cX11_feed 6 (some FieldType.int) rm_X11_feed [.ref (q 10), .int a0, .int a1, .int a2, .int a3, .int a4] (oset LX11 G q st (oset LX5 G q_r st_r (oset LX3 G q_r_mk st_r_mk h))) (mQi G (fun r h1 => r = x.1 ∧ h1 = oset LX11 G q st (oset LX5 G q_r x.2 (oset LX3 G q_r_mk st_r_mk h)))) := by
  refine mp_of (by decide +kernel) (Nat.le_of_ble_eq_true rfl) ?_
  intro p e s m below meth c X hr hlk hH hname ls hl
  dsimp only [f_X11_feed] at hF
  replace hl : lv_has ls 6 [(0, .ref (q 10)), (1, .int a0), (2, .int a1), (3, .int a2), (4, .int a3), (5, .int a4)] := hl
  refine lv_aload_n X.x X.b (dk DX11_feed_0 0 rfl) rfl (lv_at hl 0 rfl) ?_
  refine og_getR (t := 4) OX11 X hq hH 0 (by decide) rfl kF_X11_10 (dk DX11_feed_0 1 rfl) ?_
  rw [lk_r]
  refine lv_bipush (v := 20) X.x X.b (dk DX11_feed_0 2 rfl) (by decide) ?_
  obtain ⟨x1, e2, hF⟩ := bd hF
  refine mr_ci0 (mH_perm (l1 := [(LX11, q, st), (LX5, q_r, st_r), (LX3, q_r_mk, st_r_mk)]) (l2 := [(LX5, q_r, st_r), (LX3, q_r_mk, st_r_mk), (LX11, q, st)]) ha [1, 2, 0] [2, 0, 1] rfl rfl rfl hH) ⟨rfl, rfl⟩ (mr_runV (As := [.int 20]) (rest := []) X (mH_perm (l1 := [(LX11, q, st), (LX5, q_r, st_r), (LX3, q_r_mk, st_r_mk)]) (l2 := [(LX5, q_r, st_r), (LX3, q_r_mk, st_r_mk), (LX11, q, st)]) ha [1, 2, 0] [2, 0, 1] rfl rfl rfl hH) (c_X5_hasRoomFor hq_r hq_r_mk (oap_sub ha [1, 2] rfl rfl) lk_r_mk e2) ((oset_at hq_r (Nat.le_refl _) ohas_N).trans (congrArg some ocell_N)) OX5.1 kM_X11_71 kI_X5_hasRoomFor kS_X5_hasRoomFor kN_X5 kC_X5_hasRoomFor hd_X5_hasRoomFor ⟨Nat.le_of_ble_eq_true rfl, Nat.le_of_ble_eq_true rfl⟩ rfl hl.1 (Nat.le_of_ble_eq_true rfl) (dk DX11_feed_0 3 rfl) ⟨Nat.zero_le _, Nat.zero_le _⟩) (fun r h1 H locs hp hH => ?_)
  obtain ⟨hr1, hr2⟩ := hp; rw [hr1]; rw [hr2] at hH; clear hr1 hr2
  replace hH : mH G (oset LX11 G q st (oset LX5 G q_r st_r (oset LX3 G q_r_mk st_r_mk h))) s.heap H locs := mH_unperm (l1 := [(LX11, q, st), (LX5, q_r, st_r), (LX3, q_r_mk, st_r_mk)]) (l2 := [(LX5, q_r, st_r), (LX3, q_r_mk, st_r_mk), (LX11, q, st)]) ha [1, 2, 0] [2, 0, 1] rfl rfl rfl hH
  refine lv_if_ne (tgt := 14) X.x X.b (dk DX11_feed_0 4 rfl) (by decide) (fun c4 => ?_) (fun c4 => ?_)
  · replace hF := if_f hF c4
    refine lv_aload_n X.x X.b (dk DX11_feed_0 7 rfl) rfl (lv_at hl 0 rfl) ?_
    refine og_getR (t := 4) OX11 X hq hH 0 (by decide) rfl kF_X11_10 (dk DX11_feed_0 8 rfl) ?_
    rw [lk_r]
    refine lv_iload_n X.x X.b (dk DX11_feed_0 9 rfl) rfl (lv_at hl 1 rfl) ?_
    obtain ⟨x5, e6, hF⟩ := bd hF
    refine mr_cv0 (mH_perm (l1 := [(LX11, q, st), (LX5, q_r, st_r), (LX3, q_r_mk, st_r_mk)]) (l2 := [(LX5, q_r, st_r), (LX3, q_r_mk, st_r_mk), (LX11, q, st)]) ha [1, 2, 0] [2, 0, 1] rfl rfl rfl hH) ⟨rfl, rfl⟩ (mr_runV (As := [.int a0]) (rest := []) X (mH_perm (l1 := [(LX11, q, st), (LX5, q_r, st_r), (LX3, q_r_mk, st_r_mk)]) (l2 := [(LX5, q_r, st_r), (LX3, q_r_mk, st_r_mk), (LX11, q, st)]) ha [1, 2, 0] [2, 0, 1] rfl rfl rfl hH) (c_X5_put hq_r hq_r_mk (oap_sub ha [1, 2] rfl rfl) lk_r_mk e6) ((oset_at hq_r (Nat.le_refl _) ohas_N).trans (congrArg some ocell_N)) OX5.1 kM_X11_75 kI_X5_put kS_X5_put kN_X5 kC_X5_put hd_X5_put ⟨Nat.le_of_ble_eq_true rfl, Nat.le_of_ble_eq_true rfl⟩ rfl hl.1 (Nat.le_of_ble_eq_true rfl) (dk DX11_feed_0 10 rfl) ⟨Nat.zero_le _, Nat.zero_le _⟩) (fun h1 H locs hp hH => ?_)
    rw [hp] at hH; clear hp
    replace hH : mH G (oset LX11 G q st (oset LX5 G q_r x5 (oset LX3 G q_r_mk st_r_mk h))) s.heap H locs := mH_unperm (l1 := [(LX11, q, st), (LX5, q_r, x5), (LX3, q_r_mk, st_r_mk)]) (l2 := [(LX5, q_r, x5), (LX3, q_r_mk, st_r_mk), (LX11, q, st)]) ha [1, 2, 0] [2, 0, 1] rfl rfl rfl hH
    refine lv_aload_n X.x X.b (dk DX11_feed_0 11 rfl) rfl (lv_at hl 0 rfl) ?_
    refine og_getR (t := 4) OX11 X hq hH 0 (by decide) rfl kF_X11_10 (dk DX11_feed_0 12 rfl) ?_
    rw [lk_r]
    refine lv_iload_n X.x X.b (dk DX11_feed_0 13 rfl) rfl (lv_at hl 2 rfl) ?_
    obtain ⟨x8, e9, hF⟩ := bd hF
    refine mr_cv0 (mH_perm (l1 := [(LX11, q, st), (LX5, q_r, x5), (LX3, q_r_mk, st_r_mk)]) (l2 := [(LX5, q_r, x5), (LX3, q_r_mk, st_r_mk), (LX11, q, st)]) ha [1, 2, 0] [2, 0, 1] rfl rfl rfl hH) ⟨rfl, rfl⟩ (mr_runV (As := [.int a1]) (rest := []) X (mH_perm (l1 := [(LX11, q, st), (LX5, q_r, x5), (LX3, q_r_mk, st_r_mk)]) (l2 := [(LX5, q_r, x5), (LX3, q_r_mk, st_r_mk), (LX11, q, st)]) ha [1, 2, 0] [2, 0, 1] rfl rfl rfl hH) (c_X5_put hq_r hq_r_mk (oap_sub ha [1, 2] rfl rfl) lk_r_mk e9) ((oset_at hq_r (Nat.le_refl _) ohas_N).trans (congrArg some ocell_N)) OX5.1 kM_X11_75 kI_X5_put kS_X5_put kN_X5 kC_X5_put hd_X5_put ⟨Nat.le_of_ble_eq_true rfl, Nat.le_of_ble_eq_true rfl⟩ rfl hl.1 (Nat.le_of_ble_eq_true rfl) (dk DX11_feed_0 14 rfl) ⟨Nat.zero_le _, Nat.zero_le _⟩) (fun h1 H locs hp hH => ?_)
    rw [hp] at hH; clear hp
    replace hH : mH G (oset LX11 G q st (oset LX5 G q_r x8 (oset LX3 G q_r_mk st_r_mk h))) s.heap H locs := mH_unperm (l1 := [(LX11, q, st), (LX5, q_r, x8), (LX3, q_r_mk, st_r_mk)]) (l2 := [(LX5, q_r, x8), (LX3, q_r_mk, st_r_mk), (LX11, q, st)]) ha [1, 2, 0] [2, 0, 1] rfl rfl rfl hH
    refine lv_aload_n X.x X.b (dk DX11_feed_0 15 rfl) rfl (lv_at hl 0 rfl) ?_
    refine og_getR (t := 4) OX11 X hq hH 0 (by decide) rfl kF_X11_10 (dk DX11_feed_0 16 rfl) ?_
    rw [lk_r]
    refine lv_iload_n X.x X.b (dk DX11_feed_0 17 rfl) rfl (lv_at hl 3 rfl) ?_
    obtain ⟨x11, e12, hF⟩ := bd hF
    refine mr_cv0 (mH_perm (l1 := [(LX11, q, st), (LX5, q_r, x8), (LX3, q_r_mk, st_r_mk)]) (l2 := [(LX5, q_r, x8), (LX3, q_r_mk, st_r_mk), (LX11, q, st)]) ha [1, 2, 0] [2, 0, 1] rfl rfl rfl hH) ⟨rfl, rfl⟩ (mr_runV (As := [.int a2]) (rest := []) X (mH_perm (l1 := [(LX11, q, st), (LX5, q_r, x8), (LX3, q_r_mk, st_r_mk)]) (l2 := [(LX5, q_r, x8), (LX3, q_r_mk, st_r_mk), (LX11, q, st)]) ha [1, 2, 0] [2, 0, 1] rfl rfl rfl hH) (c_X5_put hq_r hq_r_mk (oap_sub ha [1, 2] rfl rfl) lk_r_mk e12) ((oset_at hq_r (Nat.le_refl _) ohas_N).trans (congrArg some ocell_N)) OX5.1 kM_X11_75 kI_X5_put kS_X5_put kN_X5 kC_X5_put hd_X5_put ⟨Nat.le_of_ble_eq_true rfl, Nat.le_of_ble_eq_true rfl⟩ rfl hl.1 (Nat.le_of_ble_eq_true rfl) (dk DX11_feed_0 18 rfl) ⟨Nat.zero_le _, Nat.zero_le _⟩) (fun h1 H locs hp hH => ?_)
    rw [hp] at hH; clear hp
    replace hH : mH G (oset LX11 G q st (oset LX5 G q_r x11 (oset LX3 G q_r_mk st_r_mk h))) s.heap H locs := mH_unperm (l1 := [(LX11, q, st), (LX5, q_r, x11), (LX3, q_r_mk, st_r_mk)]) (l2 := [(LX5, q_r, x11), (LX3, q_r_mk, st_r_mk), (LX11, q, st)]) ha [1, 2, 0] [2, 0, 1] rfl rfl rfl hH
    refine lv_aload_n X.x X.b (dk DX11_feed_0 19 rfl) rfl (lv_at hl 0 rfl) ?_
    refine og_getR (t := 4) OX11 X hq hH 0 (by decide) rfl kF_X11_10 (dk DX11_feed_0 20 rfl) ?_
    rw [lk_r]
    refine lv_iload X.x X.b (dk DX11_feed_0 21 rfl) (lv_at hl 4 rfl) ?_
    obtain ⟨x14, e15, hF⟩ := bd hF
    refine mr_cv0 (mH_perm (l1 := [(LX11, q, st), (LX5, q_r, x11), (LX3, q_r_mk, st_r_mk)]) (l2 := [(LX5, q_r, x11), (LX3, q_r_mk, st_r_mk), (LX11, q, st)]) ha [1, 2, 0] [2, 0, 1] rfl rfl rfl hH) ⟨rfl, rfl⟩ (mr_runV (As := [.int a3]) (rest := []) X (mH_perm (l1 := [(LX11, q, st), (LX5, q_r, x11), (LX3, q_r_mk, st_r_mk)]) (l2 := [(LX5, q_r, x11), (LX3, q_r_mk, st_r_mk), (LX11, q, st)]) ha [1, 2, 0] [2, 0, 1] rfl rfl rfl hH) (c_X5_put hq_r hq_r_mk (oap_sub ha [1, 2] rfl rfl) lk_r_mk e15) ((oset_at hq_r (Nat.le_refl _) ohas_N).trans (congrArg some ocell_N)) OX5.1 kM_X11_75 kI_X5_put kS_X5_put kN_X5 kC_X5_put hd_X5_put ⟨Nat.le_of_ble_eq_true rfl, Nat.le_of_ble_eq_true rfl⟩ rfl hl.1 (Nat.le_of_ble_eq_true rfl) (dk DX11_feed_0 22 rfl) ⟨Nat.zero_le _, Nat.zero_le _⟩) (fun h1 H locs hp hH => ?_)
    rw [hp] at hH; clear hp
    replace hH : mH G (oset LX11 G q st (oset LX5 G q_r x14 (oset LX3 G q_r_mk st_r_mk h))) s.heap H locs := mH_unperm (l1 := [(LX11, q, st), (LX5, q_r, x14), (LX3, q_r_mk, st_r_mk)]) (l2 := [(LX5, q_r, x14), (LX3, q_r_mk, st_r_mk), (LX11, q, st)]) ha [1, 2, 0] [2, 0, 1] rfl rfl rfl hH
    refine lv_aload_n X.x X.b (dk DX11_feed_0 23 rfl) rfl (lv_at hl 0 rfl) ?_
    refine og_getR (t := 4) OX11 X hq hH 0 (by decide) rfl kF_X11_10 (dk DX11_feed_0 24 rfl) ?_
    rw [lk_r]
    refine lv_iload X.x X.b (dk DX11_feed_0 25 rfl) (lv_at hl 5 rfl) ?_
    obtain ⟨x17, e18, hF⟩ := bd hF
    refine mr_cv0 (mH_perm (l1 := [(LX11, q, st), (LX5, q_r, x14), (LX3, q_r_mk, st_r_mk)]) (l2 := [(LX5, q_r, x14), (LX3, q_r_mk, st_r_mk), (LX11, q, st)]) ha [1, 2, 0] [2, 0, 1] rfl rfl rfl hH) ⟨rfl, rfl⟩ (mr_runV (As := [.int a4]) (rest := []) X (mH_perm (l1 := [(LX11, q, st), (LX5, q_r, x14), (LX3, q_r_mk, st_r_mk)]) (l2 := [(LX5, q_r, x14), (LX3, q_r_mk, st_r_mk), (LX11, q, st)]) ha [1, 2, 0] [2, 0, 1] rfl rfl rfl hH) (c_X5_put hq_r hq_r_mk (oap_sub ha [1, 2] rfl rfl) lk_r_mk e18) ((oset_at hq_r (Nat.le_refl _) ohas_N).trans (congrArg some ocell_N)) OX5.1 kM_X11_75 kI_X5_put kS_X5_put kN_X5 kC_X5_put hd_X5_put ⟨Nat.le_of_ble_eq_true rfl, Nat.le_of_ble_eq_true rfl⟩ rfl hl.1 (Nat.le_of_ble_eq_true rfl) (dk DX11_feed_0 26 rfl) ⟨Nat.zero_le _, Nat.zero_le _⟩) (fun h1 H locs hp hH => ?_)
    rw [hp] at hH; clear hp
    replace hH : mH G (oset LX11 G q st (oset LX5 G q_r x17 (oset LX3 G q_r_mk st_r_mk h))) s.heap H locs := mH_unperm (l1 := [(LX11, q, st), (LX5, q_r, x17), (LX3, q_r_mk, st_r_mk)]) (l2 := [(LX5, q_r, x17), (LX3, q_r_mk, st_r_mk), (LX11, q, st)]) ha [1, 2, 0] [2, 0, 1] rfl rfl rfl hH
    refine lv_aload_n X.x X.b (dk DX11_feed_0 27 rfl) rfl (lv_at hl 0 rfl) ?_
    refine og_getR (t := 4) OX11 X hq hH 0 (by decide) rfl kF_X11_10 (dk DX11_feed_0 28 rfl) ?_
    rw [lk_r]
    refine og_getIN OX5 X hq_r (mH_perm (l1 := [(LX11, q, st), (LX5, q_r, x17), (LX3, q_r_mk, st_r_mk)]) (l2 := [(LX5, q_r, x17), (LX11, q, st), (LX3, q_r_mk, st_r_mk)]) ha [1, 0, 2] [1, 0, 2] rfl rfl rfl hH) 2 (by decide) rfl kFN_X11_79 (dk DX11_feed_0 29 rfl) ?_
    cases sm hF
    exact mr_iret X hr hlk hH ⟨rfl, rfl⟩ (dk DX11_feed_0 30 rfl)
  · replace hF := if_t hF c4
    refine lv_iconst (v := (-1)) X.x X.b (dk DX11_feed_0 5 rfl) (by decide) ?_
    cases sm hF
    exact mr_iret X hr hlk hH ⟨rfl, rfl⟩ (dk DX11_feed_0 6 rfl)
-- X11_world
abbrev rm_X11_world : Room := { frames := 10, cells := 1, slots := 6, locals := 216 }
theorem hd_X11_world : mHd yX11_world 1 := ⟨by decide +kernel, by decide +kernel, by decide +kernel⟩
theorem DX11_world_0 : ∀ t ∈ ([(0, .iload_n 1, 1), (1, .ifCond .lt 14, 3), (4, .iload_n 1, 1), (5, .aload_n 0, 1), (6, .getfield 10, 3), (9, .getfield 79, 3), (12, .if_icmp .le 13, 3), (15, .new 83, 3), (18, .dup, 1), (19, .ldc 85, 2), (21, .invokespecial 87, 3), (24, .athrow, 1), (25, .aload_n 0, 1), (26, .getfield 10, 3), (29, .iload_n 1, 1), (30, .aload_n 0, 1), (31, .getfield 23, 3), (34, .invokevirtual 90, 3), (37, .ifCond .ne 14, 3), (40, .bipush (-10), 2), (42, .aload_n 0, 1), (43, .getfield 10, 3), (46, .getfield 94, 3), (49, .isub, 1), (50, .ireturn, 1), (51, .aload_n 0, 1), (52, .getfield 19, 3), (55, .aload_n 0, 1), (56, .getfield 23, 3), (59, .invokevirtual 97, 3), (62, .aload_n 0, 1), (63, .getfield 29, 3), (66, .invokevirtual 101, 3), (69, .aload_n 0, 1), (70, .getfield 19, 3), (73, .getfield 104, 3), (76, .ireturn, 1)] : List (Nat × Instr × Nat)), decode cX11_world t.1 = .ok (t.2.1, t.2.2) := by decide +kernel
noncomputable def f_X11_world (st : OS) (st_r : OS) (st_r_mk : OS) (st_n : OS) (st_d : OS) (st_hs : OS) (a0 : Int32) : Option (Nat ⊕ (Int32 × OS × OS × OS × OS)) := (if a0 < 0 then some (.inl 1) else (if a0 ≤ (st_r.1 2) then (f_X5_read st_r st_r_mk st_d a0).bind (fun x3 => match x3 with | (v5, t6, t7) => (if v5 = 0 then some (.inr (((-10 : Int32) - (t6.1 8), t6, st_n, t7, st_hs))) else (f_X10_copy st_n t7).bind (fun x9 => (f_X1_forget st_hs).bind (fun x12 => some (.inr ((x9.1 1, t6, x9, t7, x12))))))) else some (.inl 1)))
set_option maxHeartbeats 4000000 in
set_option maxRecDepth 100000 in
theorem c_X11_world {l : Launch} (hst : l.stackTraces = false) {G : mG} {h : mM} {q : Nat → Nat} {q_r : Nat → Nat} {q_r_mk : Nat → Nat} {q_n : Nat → Nat} {q_d : Nat → Nat} {q_hs : Nat → Nat} (hq : oinj LX11 q) (hq_r : oinj LX5 q_r) (hq_r_mk : oinj LX3 q_r_mk) (hq_n : oinj LX10 q_n) (hq_d : oinj LX10 q_d) (hq_hs : oinj LX1 q_hs) (ha : oap [(LX11, q), (LX5, q_r), (LX3, q_r_mk), (LX10, q_n), (LX10, q_d), (LX1, q_hs)]) (lk_r : q 0 = q_r 10) (lk_r_mk : q_r 0 = q_r_mk 3) (lk_n : q 1 = q_n 5) (lk_d : q 2 = q_d 5) (lk_hs : q 3 = q_hs 4) {st : OS} {st_r : OS} {st_r_mk : OS} {st_n : OS} {st_d : OS} {st_hs : OS} {a0 : Int32} {x : Nat ⊕ (Int32 × OS × OS × OS × OS)} (hF : f_X11_world st st_r st_r_mk st_n st_d st_hs a0 = some x) : xQ l G yX11_world cX11_world 2 (some FieldType.int) rm_X11_world [.ref (q 10), .int a0] (oset LX11 G q st (oset LX5 G q_r st_r (oset LX3 G q_r_mk st_r_mk (oset LX10 G q_n st_n (oset LX10 G q_d st_d (oset LX1 G q_hs st_hs h)))))) (mQi G (fun r h1 => ∃ y, x = .inr y ∧ r = y.1 ∧ h1 = oset LX11 G q st (oset LX5 G q_r y.2.1 (oset LX3 G q_r_mk st_r_mk (oset LX10 G q_n y.2.2.1 (oset LX10 G q_d y.2.2.2.1 (oset LX1 G q_hs y.2.2.2.2 h))))))) (fun E h1 => ∃ k, x = .inl k ∧ E = exN k ∧ h1 = oset LX11 G q st (oset LX5 G q_r st_r (oset LX3 G q_r_mk st_r_mk (oset LX10 G q_n st_n (oset LX10 G q_d st_d (oset LX1 G q_hs st_hs h)))))) := by
  refine xp_of (by decide +kernel) (Nat.le_of_ble_eq_true rfl) ?_
  intro p e s m below meth c X hr hlk hno hH ls hl
  dsimp only [f_X11_world] at hF
  replace hl : lv_has ls 2 [(0, .ref (q 10)), (1, .int a0)] := hl
  refine lv_iload_n X.x X.b (dk DX11_world_0 0 rfl) rfl (lv_at hl 1 rfl) ?_
  refine lv_if_lt (tgt := 15) X.x X.b (dk DX11_world_0 1 rfl) (by decide) (fun c1 => ?_) (fun c1 => ?_)
  · replace hF := if_t hF c1
    cases sm hF
    exact mr_throwS X hno hlk hl.1 hst hH 1 0 (by decide +kernel) (by decide +kernel) (by decide +kernel) exT_X11_87 kL_X11_83 kN_ex1 (dk DX11_world_0 7 rfl) (dk DX11_world_0 8 rfl) (dk DX11_world_0 9 rfl) (dk DX11_world_0 10 rfl) (dk DX11_world_0 11 rfl) ⟨Nat.le_of_ble_eq_true rfl, Nat.le_of_ble_eq_true rfl, Nat.le_of_ble_eq_true rfl, Nat.le_of_ble_eq_true rfl⟩ (Nat.le_of_ble_eq_true rfl) (Nat.le_of_ble_eq_true rfl) ⟨_, rfl, rfl, rfl⟩
  · replace hF := if_f hF c1
    refine lv_iload_n X.x X.b (dk DX11_world_0 2 rfl) rfl (lv_at hl 1 rfl) ?_
    refine lv_aload_n X.x X.b (dk DX11_world_0 3 rfl) rfl (lv_at hl 0 rfl) ?_
    refine og_getR (t := 4) OX11 X hq hH 0 (by decide) rfl kF_X11_10 (dk DX11_world_0 4 rfl) ?_
    rw [lk_r]
    refine og_getIN OX5 X hq_r (mH_perm (l1 := [(LX11, q, st), (LX5, q_r, st_r), (LX3, q_r_mk, st_r_mk), (LX10, q_n, st_n), (LX10, q_d, st_d), (LX1, q_hs, st_hs)]) (l2 := [(LX5, q_r, st_r), (LX11, q, st), (LX3, q_r_mk, st_r_mk), (LX10, q_n, st_n), (LX10, q_d, st_d), (LX1, q_hs, st_hs)]) ha [1, 0, 2, 3, 4, 5] [1, 0, 2, 3, 4, 5] rfl rfl rfl hH) 2 (by decide) rfl kFN_X11_79 (dk DX11_world_0 5 rfl) ?_
    refine lv_icmp_le (tgt := 25) X.x X.b (dk DX11_world_0 6 rfl) (by decide) (fun c2 => ?_) (fun c2 => ?_)
    · replace hF := if_t hF c2
      refine lv_aload_n X.x X.b (dk DX11_world_0 12 rfl) rfl (lv_at hl 0 rfl) ?_
      refine og_getR (t := 4) OX11 X hq hH 0 (by decide) rfl kF_X11_10 (dk DX11_world_0 13 rfl) ?_
      rw [lk_r]
      refine lv_iload_n X.x X.b (dk DX11_world_0 14 rfl) rfl (lv_at hl 1 rfl) ?_
      refine lv_aload_n X.x X.b (dk DX11_world_0 15 rfl) rfl (lv_at hl 0 rfl) ?_
      refine og_getR (t := 4) OX11 X hq hH 2 (by decide) rfl kF_X11_23 (dk DX11_world_0 16 rfl) ?_
      rw [lk_d]
      obtain ⟨x3, e4, hF⟩ := bd hF
      refine mr_ci0 (mH_perm (l1 := [(LX11, q, st), (LX5, q_r, st_r), (LX3, q_r_mk, st_r_mk), (LX10, q_n, st_n), (LX10, q_d, st_d), (LX1, q_hs, st_hs)]) (l2 := [(LX5, q_r, st_r), (LX3, q_r_mk, st_r_mk), (LX10, q_d, st_d), (LX11, q, st), (LX10, q_n, st_n), (LX1, q_hs, st_hs)]) ha [1, 2, 4, 0, 3, 5] [3, 0, 1, 4, 2, 5] rfl rfl rfl hH) ⟨rfl, rfl⟩ (mr_runV (As := [.int a0, .ref (q_d 5)]) (rest := []) X (mH_perm (l1 := [(LX11, q, st), (LX5, q_r, st_r), (LX3, q_r_mk, st_r_mk), (LX10, q_n, st_n), (LX10, q_d, st_d), (LX1, q_hs, st_hs)]) (l2 := [(LX5, q_r, st_r), (LX3, q_r_mk, st_r_mk), (LX10, q_d, st_d), (LX11, q, st), (LX10, q_n, st_n), (LX1, q_hs, st_hs)]) ha [1, 2, 4, 0, 3, 5] [3, 0, 1, 4, 2, 5] rfl rfl rfl hH) (c_X5_read hq_r hq_r_mk hq_d (oap_sub ha [1, 2, 4] rfl rfl) lk_r_mk e4) ((oset_at hq_r (Nat.le_refl _) ohas_N).trans (congrArg some ocell_N)) OX5.1 kM_X11_90 kI_X5_read kS_X5_read kN_X5 kC_X5_read hd_X5_read ⟨Nat.le_of_ble_eq_true rfl, Nat.le_of_ble_eq_true rfl⟩ rfl hl.1 (Nat.le_of_ble_eq_true rfl) (dk DX11_world_0 17 rfl) ⟨Nat.le_of_ble_eq_true rfl, Nat.le_of_ble_eq_true rfl⟩) (fun r h1 H locs hp hH => ?_)
      obtain ⟨hr1, hr2⟩ := hp; rw [hr1]; rw [hr2] at hH; clear hr1 hr2
      obtain ⟨v5, t6, t7⟩ := x3
      try dsimp only at hF hH ⊢
      replace hH : mH G (oset LX11 G q st (oset LX5 G q_r t6 (oset LX3 G q_r_mk st_r_mk (oset LX10 G q_n st_n (oset LX10 G q_d t7 (oset LX1 G q_hs st_hs h)))))) s.heap H locs := mH_unperm (l1 := [(LX11, q, st), (LX5, q_r, t6), (LX3, q_r_mk, st_r_mk), (LX10, q_n, st_n), (LX10, q_d, t7), (LX1, q_hs, st_hs)]) (l2 := [(LX5, q_r, t6), (LX3, q_r_mk, st_r_mk), (LX10, q_d, t7), (LX11, q, st), (LX10, q_n, st_n), (LX1, q_hs, st_hs)]) ha [1, 2, 4, 0, 3, 5] [3, 0, 1, 4, 2, 5] rfl rfl rfl hH
      refine lv_if_ne (tgt := 51) X.x X.b (dk DX11_world_0 18 rfl) (by decide) (fun c8 => ?_) (fun c8 => ?_)
      · replace hF := if_f hF c8
        refine lv_aload_n X.x X.b (dk DX11_world_0 25 rfl) rfl (lv_at hl 0 rfl) ?_
        refine og_getR (t := 4) OX11 X hq hH 1 (by decide) rfl kF_X11_19 (dk DX11_world_0 26 rfl) ?_
        rw [lk_n]
        refine lv_aload_n X.x X.b (dk DX11_world_0 27 rfl) rfl (lv_at hl 0 rfl) ?_
        refine og_getR (t := 4) OX11 X hq hH 2 (by decide) rfl kF_X11_23 (dk DX11_world_0 28 rfl) ?_
        rw [lk_d]
        obtain ⟨x9, e10, hF⟩ := bd hF
        refine mr_cv0 (mH_perm (l1 := [(LX11, q, st), (LX5, q_r, t6), (LX3, q_r_mk, st_r_mk), (LX10, q_n, st_n), (LX10, q_d, t7), (LX1, q_hs, st_hs)]) (l2 := [(LX10, q_n, st_n), (LX10, q_d, t7), (LX11, q, st), (LX5, q_r, t6), (LX3, q_r_mk, st_r_mk), (LX1, q_hs, st_hs)]) ha [3, 4, 0, 1, 2, 5] [2, 3, 4, 0, 1, 5] rfl rfl rfl hH) ⟨rfl, rfl⟩ (mr_runV (As := [.ref (q_d 5)]) (rest := []) X (mH_perm (l1 := [(LX11, q, st), (LX5, q_r, t6), (LX3, q_r_mk, st_r_mk), (LX10, q_n, st_n), (LX10, q_d, t7), (LX1, q_hs, st_hs)]) (l2 := [(LX10, q_n, st_n), (LX10, q_d, t7), (LX11, q, st), (LX5, q_r, t6), (LX3, q_r_mk, st_r_mk), (LX1, q_hs, st_hs)]) ha [3, 4, 0, 1, 2, 5] [2, 3, 4, 0, 1, 5] rfl rfl rfl hH) (c_X10_copy hq_n hq_d (oap_sub ha [3, 4] rfl rfl) e10) ((oset_at hq_n (Nat.le_refl _) ohas_N).trans (congrArg some ocell_N)) OX10.1 kM_X11_97 kI_X10_copy kS_X10_copy kN_X10 kC_X10_copy hd_X10_copy ⟨Nat.le_of_ble_eq_true rfl, Nat.le_of_ble_eq_true rfl⟩ rfl hl.1 (Nat.le_of_ble_eq_true rfl) (dk DX11_world_0 29 rfl) ⟨Nat.le_of_ble_eq_true rfl, Nat.le_of_ble_eq_true rfl⟩) (fun h1 H locs hp hH => ?_)
        rw [hp] at hH; clear hp
        replace hH : mH G (oset LX11 G q st (oset LX5 G q_r t6 (oset LX3 G q_r_mk st_r_mk (oset LX10 G q_n x9 (oset LX10 G q_d t7 (oset LX1 G q_hs st_hs h)))))) s.heap H locs := mH_unperm (l1 := [(LX11, q, st), (LX5, q_r, t6), (LX3, q_r_mk, st_r_mk), (LX10, q_n, x9), (LX10, q_d, t7), (LX1, q_hs, st_hs)]) (l2 := [(LX10, q_n, x9), (LX10, q_d, t7), (LX11, q, st), (LX5, q_r, t6), (LX3, q_r_mk, st_r_mk), (LX1, q_hs, st_hs)]) ha [3, 4, 0, 1, 2, 5] [2, 3, 4, 0, 1, 5] rfl rfl rfl hH
        refine lv_aload_n X.x X.b (dk DX11_world_0 30 rfl) rfl (lv_at hl 0 rfl) ?_
        refine og_getR (t := 4) OX11 X hq hH 3 (by decide) rfl kF_X11_29 (dk DX11_world_0 31 rfl) ?_
        rw [lk_hs]
        obtain ⟨x12, e13, hF⟩ := bd hF
        refine mr_cv0 (mH_perm (l1 := [(LX11, q, st), (LX5, q_r, t6), (LX3, q_r_mk, st_r_mk), (LX10, q_n, x9), (LX10, q_d, t7), (LX1, q_hs, st_hs)]) (l2 := [(LX1, q_hs, st_hs), (LX11, q, st), (LX5, q_r, t6), (LX3, q_r_mk, st_r_mk), (LX10, q_n, x9), (LX10, q_d, t7)]) ha [5, 0, 1, 2, 3, 4] [1, 2, 3, 4, 5, 0] rfl rfl rfl hH) ⟨rfl, rfl⟩ (mr_runV (As := []) (rest := []) X (mH_perm (l1 := [(LX11, q, st), (LX5, q_r, t6), (LX3, q_r_mk, st_r_mk), (LX10, q_n, x9), (LX10, q_d, t7), (LX1, q_hs, st_hs)]) (l2 := [(LX1, q_hs, st_hs), (LX11, q, st), (LX5, q_r, t6), (LX3, q_r_mk, st_r_mk), (LX10, q_n, x9), (LX10, q_d, t7)]) ha [5, 0, 1, 2, 3, 4] [1, 2, 3, 4, 5, 0] rfl rfl rfl hH) (c_X1_forget hq_hs e13) ((oset_at hq_hs (Nat.le_refl _) ohas_N).trans (congrArg some ocell_N)) OX1.1 kM_X11_101 kI_X1_forget kS_X1_forget kN_X1 kC_X1_forget hd_X1_forget ⟨Nat.le_of_ble_eq_true rfl, Nat.le_of_ble_eq_true rfl⟩ rfl hl.1 (Nat.le_of_ble_eq_true rfl) (dk DX11_world_0 32 rfl) ⟨Nat.le_of_ble_eq_true rfl, Nat.le_of_ble_eq_true rfl⟩) (fun h1 H locs hp hH => ?_)
        rw [hp] at hH; clear hp
        replace hH : mH G (oset LX11 G q st (oset LX5 G q_r t6 (oset LX3 G q_r_mk st_r_mk (oset LX10 G q_n x9 (oset LX10 G q_d t7 (oset LX1 G q_hs x12 h)))))) s.heap H locs := mH_unperm (l1 := [(LX11, q, st), (LX5, q_r, t6), (LX3, q_r_mk, st_r_mk), (LX10, q_n, x9), (LX10, q_d, t7), (LX1, q_hs, x12)]) (l2 := [(LX1, q_hs, x12), (LX11, q, st), (LX5, q_r, t6), (LX3, q_r_mk, st_r_mk), (LX10, q_n, x9), (LX10, q_d, t7)]) ha [5, 0, 1, 2, 3, 4] [1, 2, 3, 4, 5, 0] rfl rfl rfl hH
        refine lv_aload_n X.x X.b (dk DX11_world_0 33 rfl) rfl (lv_at hl 0 rfl) ?_
        refine og_getR (t := 4) OX11 X hq hH 1 (by decide) rfl kF_X11_19 (dk DX11_world_0 34 rfl) ?_
        rw [lk_n]
        refine og_getIN OX10 X hq_n (mH_perm (l1 := [(LX11, q, st), (LX5, q_r, t6), (LX3, q_r_mk, st_r_mk), (LX10, q_n, x9), (LX10, q_d, t7), (LX1, q_hs, x12)]) (l2 := [(LX10, q_n, x9), (LX11, q, st), (LX5, q_r, t6), (LX3, q_r_mk, st_r_mk), (LX10, q_d, t7), (LX1, q_hs, x12)]) ha [3, 0, 1, 2, 4, 5] [1, 2, 3, 0, 4, 5] rfl rfl rfl hH) 1 (by decide) rfl kFN_X11_104 (dk DX11_world_0 35 rfl) ?_
        cases sm hF
        exact vx_ret (W.widen (k := (rm_X11_world).cells) (n := (rm_X11_world).slots) (Nat.le_of_ble_eq_true rfl) (Nat.le_of_ble_eq_true rfl) (mr_iret X hr hlk hH ⟨_, rfl, rfl, rfl⟩ (dk DX11_world_0 36 rfl)))
      · replace hF := if_t hF c8
        refine lv_bipush (v := (-10)) X.x X.b (dk DX11_world_0 19 rfl) (by decide) ?_
        refine lv_aload_n X.x X.b (dk DX11_world_0 20 rfl) rfl (lv_at hl 0 rfl) ?_
        refine og_getR (t := 4) OX11 X hq hH 0 (by decide) rfl kF_X11_10 (dk DX11_world_0 21 rfl) ?_
        rw [lk_r]
        refine og_getIN OX5 X hq_r (mH_perm (l1 := [(LX11, q, st), (LX5, q_r, t6), (LX3, q_r_mk, st_r_mk), (LX10, q_n, st_n), (LX10, q_d, t7), (LX1, q_hs, st_hs)]) (l2 := [(LX5, q_r, t6), (LX11, q, st), (LX3, q_r_mk, st_r_mk), (LX10, q_n, st_n), (LX10, q_d, t7), (LX1, q_hs, st_hs)]) ha [1, 0, 2, 3, 4, 5] [1, 0, 2, 3, 4, 5] rfl rfl rfl hH) 8 (by decide) rfl kFN_X11_94 (dk DX11_world_0 22 rfl) ?_
        refine lv_isub X.x X.b (dk DX11_world_0 23 rfl) ?_
        cases sm hF
        exact vx_ret (W.widen (k := (rm_X11_world).cells) (n := (rm_X11_world).slots) (Nat.le_of_ble_eq_true rfl) (Nat.le_of_ble_eq_true rfl) (mr_iret X hr hlk hH ⟨_, rfl, rfl, rfl⟩ (dk DX11_world_0 24 rfl)))
    · replace hF := if_f hF c2
      cases sm hF
      exact mr_throwS X hno hlk hl.1 hst hH 1 0 (by decide +kernel) (by decide +kernel) (by decide +kernel) exT_X11_87 kL_X11_83 kN_ex1 (dk DX11_world_0 7 rfl) (dk DX11_world_0 8 rfl) (dk DX11_world_0 9 rfl) (dk DX11_world_0 10 rfl) (dk DX11_world_0 11 rfl) ⟨Nat.le_of_ble_eq_true rfl, Nat.le_of_ble_eq_true rfl, Nat.le_of_ble_eq_true rfl, Nat.le_of_ble_eq_true rfl⟩ (Nat.le_of_ble_eq_true rfl) (Nat.le_of_ble_eq_true rfl) ⟨_, rfl, rfl, rfl⟩
-- X11_fault
abbrev rm_X11_fault : Room := { frames := 0, cells := 0, slots := 0, locals := 0 }
theorem hd_X11_fault : mHd yX11_fault 1 := ⟨by decide +kernel, by decide +kernel, by decide +kernel⟩
theorem DX11_fault_0 : ∀ t ∈ ([(0, .iload_n 1, 1), (1, .ifCond .ne 11, 3), (4, .aload_n 0, 1), (5, .getfield 10, 3), (8, .getfield 94, 3), (11, .ireturn, 1), (12, .iload_n 1, 1), (13, .iconst 1, 1), (14, .if_icmp .ne 13, 3), (17, .aload_n 0, 1), (18, .getfield 10, 3), (21, .getfield 107, 3), (24, .goto 4, 3), (27, .iconst (-1), 1), (28, .ireturn, 1)] : List (Nat × Instr × Nat)), decode cX11_fault t.1 = .ok (t.2.1, t.2.2) := by decide +kernel
noncomputable def f_X11_fault (st : OS) (st_r : OS) (a0 : Int32) : Option (Int32) := (if a0 = 0 then some (st_r.1 8) else (if a0 = 1 then some (st_r.1 9) else some ((-1))))
set_option maxHeartbeats 4000000 in
set_option maxRecDepth 100000 in
theorem c_X11_fault {l : Launch} {G : mG} {h : mM} {q : Nat → Nat} {q_r : Nat → Nat} (hq : oinj LX11 q) (hq_r : oinj LX5 q_r) (ha : oap [(LX11, q), (LX5, q_r)]) (lk_r : q 0 = q_r 10) {st : OS} {st_r : OS} {a0 : Int32} {x : Int32} (hF : f_X11_fault st st_r a0 = some x) : cQ l G yX11_fault cX11_fault 2 (some FieldType.int) rm_X11_fault [.ref (q 10), .int a0] (oset LX11 G q st (oset LX5 G q_r st_r h)) (mQi G (fun r h1 => r = x ∧ h1 = oset LX11 G q st (oset LX5 G q_r st_r h))) := by
  refine mp_of (by decide +kernel) (Nat.le_of_ble_eq_true rfl) ?_
  intro p e s m below meth c X hr hlk hH hname ls hl
  dsimp only [f_X11_fault] at hF
  replace hl : lv_has ls 2 [(0, .ref (q 10)), (1, .int a0)] := hl
  refine lv_iload_n X.x X.b (dk DX11_fault_0 0 rfl) rfl (lv_at hl 1 rfl) ?_
  refine lv_if_ne (tgt := 12) X.x X.b (dk DX11_fault_0 1 rfl) (by decide) (fun c1 => ?_) (fun c1 => ?_)
  · replace hF := if_f hF c1
    refine lv_iload_n X.x X.b (dk DX11_fault_0 6 rfl) rfl (lv_at hl 1 rfl) ?_
    refine lv_iconst (v := 1) X.x X.b (dk DX11_fault_0 7 rfl) (by decide) ?_
    refine lv_icmp_ne (tgt := 27) X.x X.b (dk DX11_fault_0 8 rfl) (by decide) (fun c2 => ?_) (fun c2 => ?_)
    · replace hF := if_f hF c2
      refine lv_iconst (v := (-1)) X.x X.b (dk DX11_fault_0 13 rfl) (by decide) ?_
      cases sm hF
      exact mr_iret X hr hlk hH ⟨rfl, rfl⟩ (dk DX11_fault_0 14 rfl)
    · replace hF := if_t hF c2
      refine lv_aload_n X.x X.b (dk DX11_fault_0 9 rfl) rfl (lv_at hl 0 rfl) ?_
      refine og_getR (t := 4) OX11 X hq hH 0 (by decide) rfl kF_X11_10 (dk DX11_fault_0 10 rfl) ?_
      rw [lk_r]
      refine og_getIN OX5 X hq_r (mH_perm (l1 := [(LX11, q, st), (LX5, q_r, st_r)]) (l2 := [(LX5, q_r, st_r), (LX11, q, st)]) ha [1, 0] [1, 0] rfl rfl rfl hH) 9 (by decide) rfl kFN_X11_107 (dk DX11_fault_0 11 rfl) ?_
      refine lv_goto (tgt := 28) X.x X.b (dk DX11_fault_0 12 rfl) (by decide) ?_
      cases sm hF
      exact mr_iret X hr hlk hH ⟨rfl, rfl⟩ (dk DX11_fault_0 14 rfl)
  · replace hF := if_t hF c1
    refine lv_aload_n X.x X.b (dk DX11_fault_0 2 rfl) rfl (lv_at hl 0 rfl) ?_
    refine og_getR (t := 4) OX11 X hq hH 0 (by decide) rfl kF_X11_10 (dk DX11_fault_0 3 rfl) ?_
    rw [lk_r]
    refine og_getIN OX5 X hq_r (mH_perm (l1 := [(LX11, q, st), (LX5, q_r, st_r)]) (l2 := [(LX5, q_r, st_r), (LX11, q, st)]) ha [1, 0] [1, 0] rfl rfl rfl hH) 8 (by decide) rfl kFN_X11_94 (dk DX11_fault_0 4 rfl) ?_
    cases sm hF
    exact mr_iret X hr hlk hH ⟨rfl, rfl⟩ (dk DX11_fault_0 5 rfl)
-- X11_needLine
abbrev rm_X11_needLine : Room := { frames := 6, cells := 1, slots := 6, locals := 90 }
theorem hd_X11_needLine : mHd yX11_needLine 1 := ⟨by decide +kernel, by decide +kernel, by decide +kernel⟩
theorem DX11_needLine_0 : ∀ t ∈ ([(0, .aload_n 0, 1), (1, .getfield 19, 3), (4, .iload_n 1, 1), (5, .invokevirtual 333, 3), (8, .ifCond .ne 14, 3), (11, .new 291, 3), (14, .dup, 1), (15, .ldc_w 336, 3), (18, .invokespecial 295, 3), (21, .athrow, 1), (22, .return_, 1)] : List (Nat × Instr × Nat)), decode cX11_needLine t.1 = .ok (t.2.1, t.2.2) := by decide +kernel
noncomputable def f_X11_needLine (st : OS) (st_n : OS) (a0 : Int32) : Option (Nat ⊕ (Unit)) := (f_X10_hasLine st_n a0).bind (fun x1 => (if x1 = 0 then some (.inl 0) else some (.inr (()))))
set_option maxHeartbeats 4000000 in
set_option maxRecDepth 100000 in
theorem c_X11_needLine {l : Launch} (hst : l.stackTraces = false) {G : mG} {h : mM} {q : Nat → Nat} {q_n : Nat → Nat} (hq : oinj LX11 q) (hq_n : oinj LX10 q_n) (ha : oap [(LX11, q), (LX10, q_n)]) (lk_n : q 1 = q_n 5) {st : OS} {st_n : OS} {a0 : Int32} {x : Nat ⊕ (Unit)} (hF : f_X11_needLine st st_n a0 = some x) : xQ l G yX11_needLine cX11_needLine 2 none rm_X11_needLine [.ref (q 10), .int a0] (oset LX11 G q st (oset LX10 G q_n st_n h)) (mQv G (fun h1 => ∃ y, x = .inr y ∧ h1 = oset LX11 G q st (oset LX10 G q_n st_n h))) (fun E h1 => ∃ k, x = .inl k ∧ E = exN k ∧ h1 = oset LX11 G q st (oset LX10 G q_n st_n h)) := by
  refine xp_of (by decide +kernel) (Nat.le_of_ble_eq_true rfl) ?_
  intro p e s m below meth c X hr hlk hno hH ls hl
  dsimp only [f_X11_needLine] at hF
  replace hl : lv_has ls 2 [(0, .ref (q 10)), (1, .int a0)] := hl
  refine lv_aload_n X.x X.b (dk DX11_needLine_0 0 rfl) rfl (lv_at hl 0 rfl) ?_
  refine og_getR (t := 4) OX11 X hq hH 1 (by decide) rfl kF_X11_19 (dk DX11_needLine_0 1 rfl) ?_
  rw [lk_n]
  refine lv_iload_n X.x X.b (dk DX11_needLine_0 2 rfl) rfl (lv_at hl 1 rfl) ?_
  obtain ⟨x1, e2, hF⟩ := bd hF
  refine mr_ci0 (mH_perm (l1 := [(LX11, q, st), (LX10, q_n, st_n)]) (l2 := [(LX10, q_n, st_n), (LX11, q, st)]) ha [1, 0] [1, 0] rfl rfl rfl hH) ⟨rfl, rfl⟩ (mr_runV (As := [.int a0]) (rest := []) X (mH_perm (l1 := [(LX11, q, st), (LX10, q_n, st_n)]) (l2 := [(LX10, q_n, st_n), (LX11, q, st)]) ha [1, 0] [1, 0] rfl rfl rfl hH) (c_X10_hasLine hq_n e2) ((oset_at hq_n (Nat.le_refl _) ohas_N).trans (congrArg some ocell_N)) OX10.1 kM_X11_333 kI_X10_hasLine kS_X10_hasLine kN_X10 kC_X10_hasLine hd_X10_hasLine ⟨Nat.le_of_ble_eq_true rfl, Nat.le_of_ble_eq_true rfl⟩ rfl hl.1 (Nat.le_of_ble_eq_true rfl) (dk DX11_needLine_0 3 rfl) ⟨Nat.le_of_ble_eq_true rfl, Nat.le_of_ble_eq_true rfl⟩) (fun r h1 H locs hp hH => ?_)
  obtain ⟨hr1, hr2⟩ := hp; rw [hr1]; rw [hr2] at hH; clear hr1 hr2
  replace hH : mH G (oset LX11 G q st (oset LX10 G q_n st_n h)) s.heap H locs := mH_unperm (l1 := [(LX11, q, st), (LX10, q_n, st_n)]) (l2 := [(LX10, q_n, st_n), (LX11, q, st)]) ha [1, 0] [1, 0] rfl rfl rfl hH
  refine lv_if_ne (tgt := 22) X.x X.b (dk DX11_needLine_0 4 rfl) (by decide) (fun c4 => ?_) (fun c4 => ?_)
  · replace hF := if_f hF c4
    cases sm hF
    exact vx_ret (W.widen (k := (rm_X11_needLine).cells) (n := (rm_X11_needLine).slots) (Nat.le_of_ble_eq_true rfl) (Nat.le_of_ble_eq_true rfl) (mr_vret X hr hlk hH ⟨_, rfl, rfl⟩ (dk DX11_needLine_0 10 rfl)))
  · replace hF := if_t hF c4
    cases sm hF
    exact mr_throwN X hno hlk hl.1 hst hH 7 (by decide +kernel) (by decide +kernel) (by decide +kernel) nsT_X11_295 kL_X11_291 kN_ex0 (dk DX11_needLine_0 5 rfl) (dk DX11_needLine_0 6 rfl) (dk DX11_needLine_0 7 rfl) (dk DX11_needLine_0 8 rfl) (dk DX11_needLine_0 9 rfl) ⟨Nat.le_of_ble_eq_true rfl, Nat.le_of_ble_eq_true rfl, Nat.le_of_ble_eq_true rfl, Nat.le_of_ble_eq_true rfl⟩ (Nat.le_of_ble_eq_true rfl) (Nat.le_of_ble_eq_true rfl) ⟨_, rfl, rfl, rfl⟩
-- X11_line
abbrev rm_X11_line : Room := { frames := 7, cells := 1, slots := 6, locals := 111 }
theorem hd_X11_line : mHd yX11_line 1 := ⟨by decide +kernel, by decide +kernel, by decide +kernel⟩
theorem DX11_line_0 : ∀ t ∈ ([(0, .aload_n 0, 1), (1, .iload_n 1, 1), (2, .invokevirtual 110, 3), (5, .aload_n 0, 1), (6, .getfield 19, 3), (9, .iload_n 1, 1), (10, .invokevirtual 113, 3), (13, .lreturn, 1)] : List (Nat × Instr × Nat)), decode cX11_line t.1 = .ok (t.2.1, t.2.2) := by decide +kernel
noncomputable def f_X11_line (st : OS) (st_n : OS) (a0 : Int32) : Option (Nat ⊕ (Int64)) := (f_X11_needLine st st_n a0).bind (fun x1 => match x1 with | .inl k9 => some (.inl k9) | .inr y3 => (f_X10_setAt st_n a0).bind (fun x4 => some (.inr x4)))
set_option maxHeartbeats 4000000 in
set_option maxRecDepth 100000 in
theorem c_X11_line {l : Launch} (hst : l.stackTraces = false) {G : mG} {h : mM} {q : Nat → Nat} {q_n : Nat → Nat} (hq : oinj LX11 q) (hq_n : oinj LX10 q_n) (ha : oap [(LX11, q), (LX10, q_n)]) (lk_n : q 1 = q_n 5) {st : OS} {st_n : OS} {a0 : Int32} {x : Nat ⊕ (Int64)} (hF : f_X11_line st st_n a0 = some x) : xQ l G yX11_line cX11_line 2 (some FieldType.long) rm_X11_line [.ref (q 10), .int a0] (oset LX11 G q st (oset LX10 G q_n st_n h)) (mQl G (fun r h1 => ∃ y, x = .inr y ∧ r = y ∧ h1 = oset LX11 G q st (oset LX10 G q_n st_n h))) (fun E h1 => ∃ k, x = .inl k ∧ E = exN k ∧ h1 = oset LX11 G q st (oset LX10 G q_n st_n h)) := by
  refine xp_of (by decide +kernel) (Nat.le_of_ble_eq_true rfl) ?_
  intro p e s m below meth c X hr hlk hno hH ls hl
  dsimp only [f_X11_line] at hF
  replace hl : lv_has ls 2 [(0, .ref (q 10)), (1, .int a0)] := hl
  refine lv_aload_n X.x X.b (dk DX11_line_0 0 rfl) rfl (lv_at hl 0 rfl) ?_
  refine lv_iload_n X.x X.b (dk DX11_line_0 1 rfl) rfl (lv_at hl 1 rfl) ?_
  obtain ⟨x1, e2, hF⟩ := bd hF
  refine mr_xv hH (mr_xrunV (As := [.int a0]) (rest := []) X hH (c_X11_needLine hst hq hq_n ha lk_n e2) ((oset_at hq (Nat.le_refl _) ohas_N).trans (congrArg some ocell_N)) OX11.1 kM_X11_110 kI_X11_needLine kS_X11_needLine kN_X11 kC_X11_needLine hd_X11_needLine ⟨Nat.le_of_ble_eq_true rfl, Nat.le_of_ble_eq_true rfl⟩ rfl hl.1 (Nat.le_of_ble_eq_true rfl) (dk DX11_line_0 2 rfl) ⟨Nat.le_of_ble_eq_true rfl, Nat.le_of_ble_eq_true rfl⟩) (fun E h1 q9 H locs hp hH hth => ?_) (fun h1 H locs hp hH => ?_)
  · obtain ⟨k9, hk9, hE, hh9⟩ := hp
    subst hk9
    rw [hh9] at hH
    cases sm hF
    exact mr_xout hno hlk hH hth ⟨_, rfl, hE, rfl⟩ (Nat.le_of_ble_eq_true rfl) (Nat.le_of_ble_eq_true rfl)
  · obtain ⟨y3, hy9, hr2⟩ := hp
    subst hy9
    rw [hr2] at hH; clear hr2
    try dsimp only at hF
    refine lv_aload_n X.x X.b (dk DX11_line_0 3 rfl) rfl (lv_at hl 0 rfl) ?_
    refine og_getR (t := 4) OX11 X hq hH 1 (by decide) rfl kF_X11_19 (dk DX11_line_0 4 rfl) ?_
    rw [lk_n]
    refine lv_iload_n X.x X.b (dk DX11_line_0 5 rfl) rfl (lv_at hl 1 rfl) ?_
    obtain ⟨x4, e5, hF⟩ := bd hF
    refine mr_cl0 (mH_perm (l1 := [(LX11, q, st), (LX10, q_n, st_n)]) (l2 := [(LX10, q_n, st_n), (LX11, q, st)]) ha [1, 0] [1, 0] rfl rfl rfl hH) ⟨rfl, rfl⟩ (mr_runV (As := [.int a0]) (rest := []) X (mH_perm (l1 := [(LX11, q, st), (LX10, q_n, st_n)]) (l2 := [(LX10, q_n, st_n), (LX11, q, st)]) ha [1, 0] [1, 0] rfl rfl rfl hH) (c_X10_setAt hq_n e5) ((oset_at hq_n (Nat.le_refl _) ohas_N).trans (congrArg some ocell_N)) OX10.1 kM_X11_113 kI_X10_setAt kS_X10_setAt kN_X10 kC_X10_setAt hd_X10_setAt ⟨Nat.le_of_ble_eq_true rfl, Nat.le_of_ble_eq_true rfl⟩ rfl hl.1 (Nat.le_of_ble_eq_true rfl) (dk DX11_line_0 6 rfl) ⟨Nat.le_of_ble_eq_true rfl, Nat.le_of_ble_eq_true rfl⟩) (fun r h1 H locs hp hH => ?_)
    obtain ⟨hr1, hr2⟩ := hp; rw [hr1]; rw [hr2] at hH; clear hr1 hr2
    replace hH : mH G (oset LX11 G q st (oset LX10 G q_n st_n h)) s.heap H locs := mH_unperm (l1 := [(LX11, q, st), (LX10, q_n, st_n)]) (l2 := [(LX10, q_n, st_n), (LX11, q, st)]) ha [1, 0] [1, 0] rfl rfl rfl hH
    cases sm hF
    exact vx_ret (W.widen (k := (rm_X11_line).cells) (n := (rm_X11_line).slots) (Nat.le_of_ble_eq_true rfl) (Nat.le_of_ble_eq_true rfl) (mr_lret X hr hlk hH ⟨_, rfl, rfl, rfl⟩ (dk DX11_line_0 7 rfl)))
-- X11_needPoint
abbrev rm_X11_needPoint : Room := { frames := 6, cells := 1, slots := 6, locals := 90 }
theorem hd_X11_needPoint : mHd yX11_needPoint 1 := ⟨by decide +kernel, by decide +kernel, by decide +kernel⟩
theorem DX11_needPoint_0 : ∀ t ∈ ([(0, .aload_n 0, 1), (1, .getfield 19, 3), (4, .iload_n 1, 1), (5, .invokevirtual 328, 3), (8, .ifCond .ne 14, 3), (11, .new 291, 3), (14, .dup, 1), (15, .ldc_w 331, 3), (18, .invokespecial 295, 3), (21, .athrow, 1), (22, .return_, 1)] : List (Nat × Instr × Nat)), decode cX11_needPoint t.1 = .ok (t.2.1, t.2.2) := by decide +kernel
noncomputable def f_X11_needPoint (st : OS) (st_n : OS) (a0 : Int32) : Option (Nat ⊕ (Unit)) := (f_X10_hasPoint st_n a0).bind (fun x1 => (if x1 = 0 then some (.inl 0) else some (.inr (()))))
set_option maxHeartbeats 4000000 in
set_option maxRecDepth 100000 in
theorem c_X11_needPoint {l : Launch} (hst : l.stackTraces = false) {G : mG} {h : mM} {q : Nat → Nat} {q_n : Nat → Nat} (hq : oinj LX11 q) (hq_n : oinj LX10 q_n) (ha : oap [(LX11, q), (LX10, q_n)]) (lk_n : q 1 = q_n 5) {st : OS} {st_n : OS} {a0 : Int32} {x : Nat ⊕ (Unit)} (hF : f_X11_needPoint st st_n a0 = some x) : xQ l G yX11_needPoint cX11_needPoint 2 none rm_X11_needPoint [.ref (q 10), .int a0] (oset LX11 G q st (oset LX10 G q_n st_n h)) (mQv G (fun h1 => ∃ y, x = .inr y ∧ h1 = oset LX11 G q st (oset LX10 G q_n st_n h))) (fun E h1 => ∃ k, x = .inl k ∧ E = exN k ∧ h1 = oset LX11 G q st (oset LX10 G q_n st_n h)) := by
  refine xp_of (by decide +kernel) (Nat.le_of_ble_eq_true rfl) ?_
  intro p e s m below meth c X hr hlk hno hH ls hl
  dsimp only [f_X11_needPoint] at hF
  replace hl : lv_has ls 2 [(0, .ref (q 10)), (1, .int a0)] := hl
  refine lv_aload_n X.x X.b (dk DX11_needPoint_0 0 rfl) rfl (lv_at hl 0 rfl) ?_
  refine og_getR (t := 4) OX11 X hq hH 1 (by decide) rfl kF_X11_19 (dk DX11_needPoint_0 1 rfl) ?_
  rw [lk_n]
  refine lv_iload_n X.x X.b (dk DX11_needPoint_0 2 rfl) rfl (lv_at hl 1 rfl) ?_
  obtain ⟨x1, e2, hF⟩ := bd hF
  refine mr_ci0 (mH_perm (l1 := [(LX11, q, st), (LX10, q_n, st_n)]) (l2 := [(LX10, q_n, st_n), (LX11, q, st)]) ha [1, 0] [1, 0] rfl rfl rfl hH) ⟨rfl, rfl⟩ (mr_runV (As := [.int a0]) (rest := []) X (mH_perm (l1 := [(LX11, q, st), (LX10, q_n, st_n)]) (l2 := [(LX10, q_n, st_n), (LX11, q, st)]) ha [1, 0] [1, 0] rfl rfl rfl hH) (c_X10_hasPoint hq_n e2) ((oset_at hq_n (Nat.le_refl _) ohas_N).trans (congrArg some ocell_N)) OX10.1 kM_X11_328 kI_X10_hasPoint kS_X10_hasPoint kN_X10 kC_X10_hasPoint hd_X10_hasPoint ⟨Nat.le_of_ble_eq_true rfl, Nat.le_of_ble_eq_true rfl⟩ rfl hl.1 (Nat.le_of_ble_eq_true rfl) (dk DX11_needPoint_0 3 rfl) ⟨Nat.le_of_ble_eq_true rfl, Nat.le_of_ble_eq_true rfl⟩) (fun r h1 H locs hp hH => ?_)
  obtain ⟨hr1, hr2⟩ := hp; rw [hr1]; rw [hr2] at hH; clear hr1 hr2
  replace hH : mH G (oset LX11 G q st (oset LX10 G q_n st_n h)) s.heap H locs := mH_unperm (l1 := [(LX11, q, st), (LX10, q_n, st_n)]) (l2 := [(LX10, q_n, st_n), (LX11, q, st)]) ha [1, 0] [1, 0] rfl rfl rfl hH
  refine lv_if_ne (tgt := 22) X.x X.b (dk DX11_needPoint_0 4 rfl) (by decide) (fun c4 => ?_) (fun c4 => ?_)
  · replace hF := if_f hF c4
    cases sm hF
    exact vx_ret (W.widen (k := (rm_X11_needPoint).cells) (n := (rm_X11_needPoint).slots) (Nat.le_of_ble_eq_true rfl) (Nat.le_of_ble_eq_true rfl) (mr_vret X hr hlk hH ⟨_, rfl, rfl⟩ (dk DX11_needPoint_0 10 rfl)))
  · replace hF := if_t hF c4
    cases sm hF
    exact mr_throwN X hno hlk hl.1 hst hH 8 (by decide +kernel) (by decide +kernel) (by decide +kernel) nsT_X11_295 kL_X11_291 kN_ex0 (dk DX11_needPoint_0 5 rfl) (dk DX11_needPoint_0 6 rfl) (dk DX11_needPoint_0 7 rfl) (dk DX11_needPoint_0 8 rfl) (dk DX11_needPoint_0 9 rfl) ⟨Nat.le_of_ble_eq_true rfl, Nat.le_of_ble_eq_true rfl, Nat.le_of_ble_eq_true rfl, Nat.le_of_ble_eq_true rfl⟩ (Nat.le_of_ble_eq_true rfl) (Nat.le_of_ble_eq_true rfl) ⟨_, rfl, rfl, rfl⟩
-- X11_through
abbrev rm_X11_through : Room := { frames := 7, cells := 1, slots := 6, locals := 111 }
theorem hd_X11_through : mHd yX11_through 1 := ⟨by decide +kernel, by decide +kernel, by decide +kernel⟩
theorem DX11_through_0 : ∀ t ∈ ([(0, .aload_n 0, 1), (1, .iload_n 1, 1), (2, .invokevirtual 117, 3), (5, .aload_n 0, 1), (6, .getfield 19, 3), (9, .iload_n 1, 1), (10, .invokevirtual 120, 3), (13, .lreturn, 1)] : List (Nat × Instr × Nat)), decode cX11_through t.1 = .ok (t.2.1, t.2.2) := by decide +kernel
noncomputable def f_X11_through (st : OS) (st_n : OS) (a0 : Int32) : Option (Nat ⊕ (Int64)) := (f_X11_needPoint st st_n a0).bind (fun x1 => match x1 with | .inl k9 => some (.inl k9) | .inr y3 => (f_X10_throughAt st_n a0).bind (fun x4 => some (.inr x4)))
set_option maxHeartbeats 4000000 in
set_option maxRecDepth 100000 in
theorem c_X11_through {l : Launch} (hst : l.stackTraces = false) {G : mG} {h : mM} {q : Nat → Nat} {q_n : Nat → Nat} (hq : oinj LX11 q) (hq_n : oinj LX10 q_n) (ha : oap [(LX11, q), (LX10, q_n)]) (lk_n : q 1 = q_n 5) {st : OS} {st_n : OS} {a0 : Int32} {x : Nat ⊕ (Int64)} (hF : f_X11_through st st_n a0 = some x) : xQ l G yX11_through cX11_through 2 (some FieldType.long) rm_X11_through [.ref (q 10), .int a0] (oset LX11 G q st (oset LX10 G q_n st_n h)) (mQl G (fun r h1 => ∃ y, x = .inr y ∧ r = y ∧ h1 = oset LX11 G q st (oset LX10 G q_n st_n h))) (fun E h1 => ∃ k, x = .inl k ∧ E = exN k ∧ h1 = oset LX11 G q st (oset LX10 G q_n st_n h)) := by
  refine xp_of (by decide +kernel) (Nat.le_of_ble_eq_true rfl) ?_
  intro p e s m below meth c X hr hlk hno hH ls hl
  dsimp only [f_X11_through] at hF
  replace hl : lv_has ls 2 [(0, .ref (q 10)), (1, .int a0)] := hl
  refine lv_aload_n X.x X.b (dk DX11_through_0 0 rfl) rfl (lv_at hl 0 rfl) ?_
  refine lv_iload_n X.x X.b (dk DX11_through_0 1 rfl) rfl (lv_at hl 1 rfl) ?_
  obtain ⟨x1, e2, hF⟩ := bd hF
  refine mr_xv hH (mr_xrunV (As := [.int a0]) (rest := []) X hH (c_X11_needPoint hst hq hq_n ha lk_n e2) ((oset_at hq (Nat.le_refl _) ohas_N).trans (congrArg some ocell_N)) OX11.1 kM_X11_117 kI_X11_needPoint kS_X11_needPoint kN_X11 kC_X11_needPoint hd_X11_needPoint ⟨Nat.le_of_ble_eq_true rfl, Nat.le_of_ble_eq_true rfl⟩ rfl hl.1 (Nat.le_of_ble_eq_true rfl) (dk DX11_through_0 2 rfl) ⟨Nat.le_of_ble_eq_true rfl, Nat.le_of_ble_eq_true rfl⟩) (fun E h1 q9 H locs hp hH hth => ?_) (fun h1 H locs hp hH => ?_)
  · obtain ⟨k9, hk9, hE, hh9⟩ := hp
    subst hk9
    rw [hh9] at hH
    cases sm hF
    exact mr_xout hno hlk hH hth ⟨_, rfl, hE, rfl⟩ (Nat.le_of_ble_eq_true rfl) (Nat.le_of_ble_eq_true rfl)
  · obtain ⟨y3, hy9, hr2⟩ := hp
    subst hy9
    rw [hr2] at hH; clear hr2
    try dsimp only at hF
    refine lv_aload_n X.x X.b (dk DX11_through_0 3 rfl) rfl (lv_at hl 0 rfl) ?_
    refine og_getR (t := 4) OX11 X hq hH 1 (by decide) rfl kF_X11_19 (dk DX11_through_0 4 rfl) ?_
    rw [lk_n]
    refine lv_iload_n X.x X.b (dk DX11_through_0 5 rfl) rfl (lv_at hl 1 rfl) ?_
    obtain ⟨x4, e5, hF⟩ := bd hF
    refine mr_cl0 (mH_perm (l1 := [(LX11, q, st), (LX10, q_n, st_n)]) (l2 := [(LX10, q_n, st_n), (LX11, q, st)]) ha [1, 0] [1, 0] rfl rfl rfl hH) ⟨rfl, rfl⟩ (mr_runV (As := [.int a0]) (rest := []) X (mH_perm (l1 := [(LX11, q, st), (LX10, q_n, st_n)]) (l2 := [(LX10, q_n, st_n), (LX11, q, st)]) ha [1, 0] [1, 0] rfl rfl rfl hH) (c_X10_throughAt hq_n e5) ((oset_at hq_n (Nat.le_refl _) ohas_N).trans (congrArg some ocell_N)) OX10.1 kM_X11_120 kI_X10_throughAt kS_X10_throughAt kN_X10 kC_X10_throughAt hd_X10_throughAt ⟨Nat.le_of_ble_eq_true rfl, Nat.le_of_ble_eq_true rfl⟩ rfl hl.1 (Nat.le_of_ble_eq_true rfl) (dk DX11_through_0 6 rfl) ⟨Nat.le_of_ble_eq_true rfl, Nat.le_of_ble_eq_true rfl⟩) (fun r h1 H locs hp hH => ?_)
    obtain ⟨hr1, hr2⟩ := hp; rw [hr1]; rw [hr2] at hH; clear hr1 hr2
    replace hH : mH G (oset LX11 G q st (oset LX10 G q_n st_n h)) s.heap H locs := mH_unperm (l1 := [(LX11, q, st), (LX10, q_n, st_n)]) (l2 := [(LX10, q_n, st_n), (LX11, q, st)]) ha [1, 0] [1, 0] rfl rfl rfl hH
    cases sm hF
    exact vx_ret (W.widen (k := (rm_X11_through).cells) (n := (rm_X11_through).slots) (Nat.le_of_ble_eq_true rfl) (Nat.le_of_ble_eq_true rfl) (mr_lret X hr hlk hH ⟨_, rfl, rfl, rfl⟩ (dk DX11_through_0 7 rfl)))
-- X11_joined
abbrev rm_X11_joined : Room := { frames := 7, cells := 2, slots := 12, locals := 111 }
theorem hd_X11_joined : mHd yX11_joined 2 := ⟨by decide +kernel, by decide +kernel, by decide +kernel⟩
theorem DX11_joined_0 : ∀ t ∈ ([(0, .aload_n 0, 1), (1, .iload_n 1, 1), (2, .invokevirtual 117, 3), (5, .aload_n 0, 1), (6, .iload_n 2, 1), (7, .invokevirtual 117, 3), (10, .aload_n 0, 1), (11, .getfield 19, 3), (14, .iload_n 1, 1), (15, .invokevirtual 120, 3), (18, .aload_n 0, 1), (19, .getfield 19, 3), (22, .iload_n 2, 1), (23, .invokevirtual 120, 3), (26, .land, 1), (27, .invokestatic 123, 3), (30, .ireturn, 1)] : List (Nat × Instr × Nat)), decode cX11_joined t.1 = .ok (t.2.1, t.2.2) := by decide +kernel
noncomputable def f_X11_joined (st : OS) (st_n : OS) (a0 : Int32) (a1 : Int32) : Option (Nat ⊕ (Int32)) := (f_X11_needPoint st st_n a0).bind (fun x1 => match x1 with | .inl k9 => some (.inl k9) | .inr y3 => (f_X11_needPoint st st_n a1).bind (fun x4 => match x4 with | .inl k9 => some (.inl k9) | .inr y6 => (f_X10_throughAt st_n a0).bind (fun x7 => (f_X10_throughAt st_n a1).bind (fun x10 => (f_X10_lowest (x7 &&& x10)).bind (fun x13 => some (.inr x13))))))
set_option maxHeartbeats 4000000 in
set_option maxRecDepth 100000 in
theorem c_X11_joined {l : Launch} (hst : l.stackTraces = false) {G : mG} {h : mM} {q : Nat → Nat} {q_n : Nat → Nat} (hq : oinj LX11 q) (hq_n : oinj LX10 q_n) (ha : oap [(LX11, q), (LX10, q_n)]) (lk_n : q 1 = q_n 5) {st : OS} {st_n : OS} {a0 : Int32} {a1 : Int32} {x : Nat ⊕ (Int32)} (hF : f_X11_joined st st_n a0 a1 = some x) : xQ l G yX11_joined cX11_joined 3 (some FieldType.int) rm_X11_joined [.ref (q 10), .int a0, .int a1] (oset LX11 G q st (oset LX10 G q_n st_n h)) (mQi G (fun r h1 => ∃ y, x = .inr y ∧ r = y ∧ h1 = oset LX11 G q st (oset LX10 G q_n st_n h))) (fun E h1 => ∃ k, x = .inl k ∧ E = exN k ∧ h1 = oset LX11 G q st (oset LX10 G q_n st_n h)) := by
  refine xp_of (by decide +kernel) (Nat.le_of_ble_eq_true rfl) ?_
  intro p e s m below meth c X hr hlk hno hH ls hl
  dsimp only [f_X11_joined] at hF
  replace hl : lv_has ls 3 [(0, .ref (q 10)), (1, .int a0), (2, .int a1)] := hl
  refine lv_aload_n X.x X.b (dk DX11_joined_0 0 rfl) rfl (lv_at hl 0 rfl) ?_
  refine lv_iload_n X.x X.b (dk DX11_joined_0 1 rfl) rfl (lv_at hl 1 rfl) ?_
  obtain ⟨x1, e2, hF⟩ := bd hF
  refine mr_xv hH (mr_xrunV (As := [.int a0]) (rest := []) X hH (c_X11_needPoint hst hq hq_n ha lk_n e2) ((oset_at hq (Nat.le_refl _) ohas_N).trans (congrArg some ocell_N)) OX11.1 kM_X11_117 kI_X11_needPoint kS_X11_needPoint kN_X11 kC_X11_needPoint hd_X11_needPoint ⟨Nat.le_of_ble_eq_true rfl, Nat.le_of_ble_eq_true rfl⟩ rfl hl.1 (Nat.le_of_ble_eq_true rfl) (dk DX11_joined_0 2 rfl) ⟨Nat.le_of_ble_eq_true rfl, Nat.le_of_ble_eq_true rfl⟩) (fun E h1 q9 H locs hp hH hth => ?_) (fun h1 H locs hp hH => ?_)
  · obtain ⟨k9, hk9, hE, hh9⟩ := hp
    subst hk9
    rw [hh9] at hH
    cases sm hF
    exact mr_xout hno hlk hH hth ⟨_, rfl, hE, rfl⟩ (Nat.le_of_ble_eq_true rfl) (Nat.le_of_ble_eq_true rfl)
  · obtain ⟨y3, hy9, hr2⟩ := hp
    subst hy9
    rw [hr2] at hH; clear hr2
    try dsimp only at hF
    refine lv_aload_n X.x X.b (dk DX11_joined_0 3 rfl) rfl (lv_at hl 0 rfl) ?_
    refine lv_iload_n X.x X.b (dk DX11_joined_0 4 rfl) rfl (lv_at hl 2 rfl) ?_
    obtain ⟨x4, e5, hF⟩ := bd hF
    refine mr_xv hH (mr_xrunV (As := [.int a1]) (rest := []) X hH (c_X11_needPoint hst hq hq_n ha lk_n e5) ((oset_at hq (Nat.le_refl _) ohas_N).trans (congrArg some ocell_N)) OX11.1 kM_X11_117 kI_X11_needPoint kS_X11_needPoint kN_X11 kC_X11_needPoint hd_X11_needPoint ⟨Nat.le_of_ble_eq_true rfl, Nat.le_of_ble_eq_true rfl⟩ rfl hl.1 (Nat.le_of_ble_eq_true rfl) (dk DX11_joined_0 5 rfl) ⟨Nat.le_of_ble_eq_true rfl, Nat.le_of_ble_eq_true rfl⟩) (fun E h1 q9 H locs hp hH hth => ?_) (fun h1 H locs hp hH => ?_)
    · obtain ⟨k9, hk9, hE, hh9⟩ := hp
      subst hk9
      rw [hh9] at hH
      cases sm hF
      exact mr_xout hno hlk hH hth ⟨_, rfl, hE, rfl⟩ (Nat.le_of_ble_eq_true rfl) (Nat.le_of_ble_eq_true rfl)
    · obtain ⟨y6, hy9, hr2⟩ := hp
      subst hy9
      rw [hr2] at hH; clear hr2
      try dsimp only at hF
      refine lv_aload_n X.x X.b (dk DX11_joined_0 6 rfl) rfl (lv_at hl 0 rfl) ?_
      refine og_getR (t := 4) OX11 X hq hH 1 (by decide) rfl kF_X11_19 (dk DX11_joined_0 7 rfl) ?_
      rw [lk_n]
      refine lv_iload_n X.x X.b (dk DX11_joined_0 8 rfl) rfl (lv_at hl 1 rfl) ?_
      obtain ⟨x7, e8, hF⟩ := bd hF
      refine mr_cl0 (mH_perm (l1 := [(LX11, q, st), (LX10, q_n, st_n)]) (l2 := [(LX10, q_n, st_n), (LX11, q, st)]) ha [1, 0] [1, 0] rfl rfl rfl hH) ⟨rfl, rfl⟩ (mr_runV (As := [.int a0]) (rest := []) X (mH_perm (l1 := [(LX11, q, st), (LX10, q_n, st_n)]) (l2 := [(LX10, q_n, st_n), (LX11, q, st)]) ha [1, 0] [1, 0] rfl rfl rfl hH) (c_X10_throughAt hq_n e8) ((oset_at hq_n (Nat.le_refl _) ohas_N).trans (congrArg some ocell_N)) OX10.1 kM_X11_120 kI_X10_throughAt kS_X10_throughAt kN_X10 kC_X10_throughAt hd_X10_throughAt ⟨Nat.le_of_ble_eq_true rfl, Nat.le_of_ble_eq_true rfl⟩ rfl hl.1 (Nat.le_of_ble_eq_true rfl) (dk DX11_joined_0 9 rfl) ⟨Nat.le_of_ble_eq_true rfl, Nat.le_of_ble_eq_true rfl⟩) (fun r h1 H locs hp hH => ?_)
      obtain ⟨hr1, hr2⟩ := hp; rw [hr1]; rw [hr2] at hH; clear hr1 hr2
      replace hH : mH G (oset LX11 G q st (oset LX10 G q_n st_n h)) s.heap H locs := mH_unperm (l1 := [(LX11, q, st), (LX10, q_n, st_n)]) (l2 := [(LX10, q_n, st_n), (LX11, q, st)]) ha [1, 0] [1, 0] rfl rfl rfl hH
      refine lv_aload_n X.x X.b (dk DX11_joined_0 10 rfl) rfl (lv_at hl 0 rfl) ?_
      refine og_getR (t := 4) OX11 X hq hH 1 (by decide) rfl kF_X11_19 (dk DX11_joined_0 11 rfl) ?_
      rw [lk_n]
      refine lv_iload_n X.x X.b (dk DX11_joined_0 12 rfl) rfl (lv_at hl 2 rfl) ?_
      obtain ⟨x10, e11, hF⟩ := bd hF
      refine mr_cl0 (mH_perm (l1 := [(LX11, q, st), (LX10, q_n, st_n)]) (l2 := [(LX10, q_n, st_n), (LX11, q, st)]) ha [1, 0] [1, 0] rfl rfl rfl hH) ⟨rfl, rfl⟩ (mr_runV (As := [.int a1]) (rest := [.long x7]) X (mH_perm (l1 := [(LX11, q, st), (LX10, q_n, st_n)]) (l2 := [(LX10, q_n, st_n), (LX11, q, st)]) ha [1, 0] [1, 0] rfl rfl rfl hH) (c_X10_throughAt hq_n e11) ((oset_at hq_n (Nat.le_refl _) ohas_N).trans (congrArg some ocell_N)) OX10.1 kM_X11_120 kI_X10_throughAt kS_X10_throughAt kN_X10 kC_X10_throughAt hd_X10_throughAt ⟨Nat.le_of_ble_eq_true rfl, Nat.le_of_ble_eq_true rfl⟩ rfl hl.1 (Nat.le_of_ble_eq_true rfl) (dk DX11_joined_0 13 rfl) ⟨Nat.le_of_ble_eq_true rfl, Nat.le_of_ble_eq_true rfl⟩) (fun r h1 H locs hp hH => ?_)
      obtain ⟨hr1, hr2⟩ := hp; rw [hr1]; rw [hr2] at hH; clear hr1 hr2
      replace hH : mH G (oset LX11 G q st (oset LX10 G q_n st_n h)) s.heap H locs := mH_unperm (l1 := [(LX11, q, st), (LX10, q_n, st_n)]) (l2 := [(LX10, q_n, st_n), (LX11, q, st)]) ha [1, 0] [1, 0] rfl rfl rfl hH
      refine lv_land X.x X.b (dk DX11_joined_0 14 rfl) ?_
      obtain ⟨x13, e14, hF⟩ := bd hF
      refine mr_ci0 hH ⟨rfl, rfl⟩ (mr_runS (As := [.long (x7 &&& x10)]) (rest := []) X hH (c_X10_lowest e14) kM_X11_123 kT_X10_lowest kN_X10 kC_X10_lowest hd_X10_lowest ⟨Nat.le_of_ble_eq_true rfl, Nat.le_of_ble_eq_true rfl⟩ rfl hl.1 (Nat.le_of_ble_eq_true rfl) (dk DX11_joined_0 15 rfl) ⟨Nat.le_of_ble_eq_true rfl, Nat.le_of_ble_eq_true rfl⟩) (fun r h1 H locs hp hH => ?_)
      obtain ⟨hr1, hr2⟩ := hp; rw [hr1]; rw [hr2] at hH; clear hr1 hr2
      cases sm hF
      exact vx_ret (W.widen (k := (rm_X11_joined).cells) (n := (rm_X11_joined).slots) (Nat.le_of_ble_eq_true rfl) (Nat.le_of_ble_eq_true rfl) (mr_iret X hr hlk hH ⟨_, rfl, rfl, rfl⟩ (dk DX11_joined_0 16 rfl)))
-- X11_near
abbrev rm_X11_near : Room := { frames := 7, cells := 1, slots := 6, locals := 111 }
theorem hd_X11_near : mHd yX11_near 1 := ⟨by decide +kernel, by decide +kernel, by decide +kernel⟩
theorem DX11_near_0 : ∀ t ∈ ([(0, .aload_n 0, 1), (1, .iload_n 1, 1), (2, .invokevirtual 117, 3), (5, .aload_n 0, 1), (6, .getfield 19, 3), (9, .iload_n 1, 1), (10, .invokevirtual 127, 3), (13, .lreturn, 1)] : List (Nat × Instr × Nat)), decode cX11_near t.1 = .ok (t.2.1, t.2.2) := by decide +kernel
noncomputable def f_X11_near (st : OS) (st_n : OS) (a0 : Int32) : Option (Nat ⊕ (Int64)) := (f_X11_needPoint st st_n a0).bind (fun x1 => match x1 with | .inl k9 => some (.inl k9) | .inr y3 => (f_X10_nearAt st_n a0).bind (fun x4 => some (.inr x4)))
set_option maxHeartbeats 4000000 in
set_option maxRecDepth 100000 in
theorem c_X11_near {l : Launch} (hst : l.stackTraces = false) {G : mG} {h : mM} {q : Nat → Nat} {q_n : Nat → Nat} (hq : oinj LX11 q) (hq_n : oinj LX10 q_n) (ha : oap [(LX11, q), (LX10, q_n)]) (lk_n : q 1 = q_n 5) {st : OS} {st_n : OS} {a0 : Int32} {x : Nat ⊕ (Int64)} (hF : f_X11_near st st_n a0 = some x) : xQ l G yX11_near cX11_near 2 (some FieldType.long) rm_X11_near [.ref (q 10), .int a0] (oset LX11 G q st (oset LX10 G q_n st_n h)) (mQl G (fun r h1 => ∃ y, x = .inr y ∧ r = y ∧ h1 = oset LX11 G q st (oset LX10 G q_n st_n h))) (fun E h1 => ∃ k, x = .inl k ∧ E = exN k ∧ h1 = oset LX11 G q st (oset LX10 G q_n st_n h)) := by
  refine xp_of (by decide +kernel) (Nat.le_of_ble_eq_true rfl) ?_
  intro p e s m below meth c X hr hlk hno hH ls hl
  dsimp only [f_X11_near] at hF
  replace hl : lv_has ls 2 [(0, .ref (q 10)), (1, .int a0)] := hl
  refine lv_aload_n X.x X.b (dk DX11_near_0 0 rfl) rfl (lv_at hl 0 rfl) ?_
  refine lv_iload_n X.x X.b (dk DX11_near_0 1 rfl) rfl (lv_at hl 1 rfl) ?_
  obtain ⟨x1, e2, hF⟩ := bd hF
  refine mr_xv hH (mr_xrunV (As := [.int a0]) (rest := []) X hH (c_X11_needPoint hst hq hq_n ha lk_n e2) ((oset_at hq (Nat.le_refl _) ohas_N).trans (congrArg some ocell_N)) OX11.1 kM_X11_117 kI_X11_needPoint kS_X11_needPoint kN_X11 kC_X11_needPoint hd_X11_needPoint ⟨Nat.le_of_ble_eq_true rfl, Nat.le_of_ble_eq_true rfl⟩ rfl hl.1 (Nat.le_of_ble_eq_true rfl) (dk DX11_near_0 2 rfl) ⟨Nat.le_of_ble_eq_true rfl, Nat.le_of_ble_eq_true rfl⟩) (fun E h1 q9 H locs hp hH hth => ?_) (fun h1 H locs hp hH => ?_)
  · obtain ⟨k9, hk9, hE, hh9⟩ := hp
    subst hk9
    rw [hh9] at hH
    cases sm hF
    exact mr_xout hno hlk hH hth ⟨_, rfl, hE, rfl⟩ (Nat.le_of_ble_eq_true rfl) (Nat.le_of_ble_eq_true rfl)
  · obtain ⟨y3, hy9, hr2⟩ := hp
    subst hy9
    rw [hr2] at hH; clear hr2
    try dsimp only at hF
    refine lv_aload_n X.x X.b (dk DX11_near_0 3 rfl) rfl (lv_at hl 0 rfl) ?_
    refine og_getR (t := 4) OX11 X hq hH 1 (by decide) rfl kF_X11_19 (dk DX11_near_0 4 rfl) ?_
    rw [lk_n]
    refine lv_iload_n X.x X.b (dk DX11_near_0 5 rfl) rfl (lv_at hl 1 rfl) ?_
    obtain ⟨x4, e5, hF⟩ := bd hF
    refine mr_cl0 (mH_perm (l1 := [(LX11, q, st), (LX10, q_n, st_n)]) (l2 := [(LX10, q_n, st_n), (LX11, q, st)]) ha [1, 0] [1, 0] rfl rfl rfl hH) ⟨rfl, rfl⟩ (mr_runV (As := [.int a0]) (rest := []) X (mH_perm (l1 := [(LX11, q, st), (LX10, q_n, st_n)]) (l2 := [(LX10, q_n, st_n), (LX11, q, st)]) ha [1, 0] [1, 0] rfl rfl rfl hH) (c_X10_nearAt hq_n e5) ((oset_at hq_n (Nat.le_refl _) ohas_N).trans (congrArg some ocell_N)) OX10.1 kM_X11_127 kI_X10_nearAt kS_X10_nearAt kN_X10 kC_X10_nearAt hd_X10_nearAt ⟨Nat.le_of_ble_eq_true rfl, Nat.le_of_ble_eq_true rfl⟩ rfl hl.1 (Nat.le_of_ble_eq_true rfl) (dk DX11_near_0 6 rfl) ⟨Nat.le_of_ble_eq_true rfl, Nat.le_of_ble_eq_true rfl⟩) (fun r h1 H locs hp hH => ?_)
    obtain ⟨hr1, hr2⟩ := hp; rw [hr1]; rw [hr2] at hH; clear hr1 hr2
    replace hH : mH G (oset LX11 G q st (oset LX10 G q_n st_n h)) s.heap H locs := mH_unperm (l1 := [(LX11, q, st), (LX10, q_n, st_n)]) (l2 := [(LX10, q_n, st_n), (LX11, q, st)]) ha [1, 0] [1, 0] rfl rfl rfl hH
    cases sm hF
    exact vx_ret (W.widen (k := (rm_X11_near).cells) (n := (rm_X11_near).slots) (Nat.le_of_ble_eq_true rfl) (Nat.le_of_ble_eq_true rfl) (mr_lret X hr hlk hH ⟨_, rfl, rfl, rfl⟩ (dk DX11_near_0 7 rfl)))
-- X11_needPoints
abbrev rm_X11_needPoints : Room := { frames := 6, cells := 1, slots := 6, locals := 90 }
theorem hd_X11_needPoints : mHd yX11_needPoints 1 := ⟨by decide +kernel, by decide +kernel, by decide +kernel⟩
theorem DX11_needPoints_0 : ∀ t ∈ ([(0, .lload_n 1, 1), (1, .aload_n 0, 1), (2, .getfield 19, 3), (5, .invokevirtual 338, 3), (8, .ldc2_w 242, 3), (11, .lxor, 1), (12, .land, 1), (13, .lconst 0, 1), (14, .lcmp, 1), (15, .ifCond .eq 14, 3), (18, .new 83, 3), (21, .dup, 1), (22, .ldc_w 341, 3), (25, .invokespecial 87, 3), (28, .athrow, 1), (29, .return_, 1)] : List (Nat × Instr × Nat)), decode cX11_needPoints t.1 = .ok (t.2.1, t.2.2) := by decide +kernel
noncomputable def f_X11_needPoints (st : OS) (st_n : OS) (a0 : Int64) : Option (Nat ⊕ (Unit)) := (f_X10_all st_n).bind (fun x1 => (if (lg_cmp (a0 &&& (x1 ^^^ ((-1)))) 0) = 0 then some (.inr (())) else some (.inl 1)))
set_option maxHeartbeats 4000000 in
set_option maxRecDepth 100000 in
theorem c_X11_needPoints {l : Launch} (hst : l.stackTraces = false) {G : mG} {h : mM} {q : Nat → Nat} {q_n : Nat → Nat} (hq : oinj LX11 q) (hq_n : oinj LX10 q_n) (ha : oap [(LX11, q), (LX10, q_n)]) (lk_n : q 1 = q_n 5) {st : OS} {st_n : OS} {a0 : Int64} {x : Nat ⊕ (Unit)} (hF : f_X11_needPoints st st_n a0 = some x) : xQ l G yX11_needPoints cX11_needPoints 3 none rm_X11_needPoints [.ref (q 10), .long a0] (oset LX11 G q st (oset LX10 G q_n st_n h)) (mQv G (fun h1 => ∃ y, x = .inr y ∧ h1 = oset LX11 G q st (oset LX10 G q_n st_n h))) (fun E h1 => ∃ k, x = .inl k ∧ E = exN k ∧ h1 = oset LX11 G q st (oset LX10 G q_n st_n h)) := by
  refine xp_of (by decide +kernel) (Nat.le_of_ble_eq_true rfl) ?_
  intro p e s m below meth c X hr hlk hno hH ls hl
  dsimp only [f_X11_needPoints] at hF
  replace hl : lv_has ls 3 [(0, .ref (q 10)), (1, .long a0)] := hl
  refine lv_lload_n X.x X.b (dk DX11_needPoints_0 0 rfl) rfl (lv_at hl 1 rfl) ?_
  refine lv_aload_n X.x X.b (dk DX11_needPoints_0 1 rfl) rfl (lv_at hl 0 rfl) ?_
  refine og_getR (t := 4) OX11 X hq hH 1 (by decide) rfl kF_X11_19 (dk DX11_needPoints_0 2 rfl) ?_
  rw [lk_n]
  obtain ⟨x1, e2, hF⟩ := bd hF
  refine mr_cl0 (mH_perm (l1 := [(LX11, q, st), (LX10, q_n, st_n)]) (l2 := [(LX10, q_n, st_n), (LX11, q, st)]) ha [1, 0] [1, 0] rfl rfl rfl hH) ⟨rfl, rfl⟩ (mr_runV (As := []) (rest := [.long a0]) X (mH_perm (l1 := [(LX11, q, st), (LX10, q_n, st_n)]) (l2 := [(LX10, q_n, st_n), (LX11, q, st)]) ha [1, 0] [1, 0] rfl rfl rfl hH) (c_X10_all hq_n e2) ((oset_at hq_n (Nat.le_refl _) ohas_N).trans (congrArg some ocell_N)) OX10.1 kM_X11_338 kI_X10_all kS_X10_all kN_X10 kC_X10_all hd_X10_all ⟨Nat.le_of_ble_eq_true rfl, Nat.le_of_ble_eq_true rfl⟩ rfl hl.1 (Nat.le_of_ble_eq_true rfl) (dk DX11_needPoints_0 3 rfl) ⟨Nat.le_of_ble_eq_true rfl, Nat.le_of_ble_eq_true rfl⟩) (fun r h1 H locs hp hH => ?_)
  obtain ⟨hr1, hr2⟩ := hp; rw [hr1]; rw [hr2] at hH; clear hr1 hr2
  replace hH : mH G (oset LX11 G q st (oset LX10 G q_n st_n h)) s.heap H locs := mH_unperm (l1 := [(LX11, q, st), (LX10, q_n, st_n)]) (l2 := [(LX10, q_n, st_n), (LX11, q, st)]) ha [1, 0] [1, 0] rfl rfl rfl hH
  refine lv_ldc2 (v := (-1)) X.x X.b X.ow (X.ts _ kK_X11_242) (dk DX11_needPoints_0 4 rfl) ?_
  refine lv_lxor X.x X.b (dk DX11_needPoints_0 5 rfl) ?_
  refine lv_land X.x X.b (dk DX11_needPoints_0 6 rfl) ?_
  refine lv_lconst (v := 0) X.x X.b (dk DX11_needPoints_0 7 rfl) (by decide) ?_
  refine W.lcmp X.x X.b (dk DX11_needPoints_0 8 rfl) ?_
  refine lv_if_eq (tgt := 29) X.x X.b (dk DX11_needPoints_0 9 rfl) (by decide) (fun c4 => ?_) (fun c4 => ?_)
  · replace hF := if_t hF c4
    cases sm hF
    exact vx_ret (W.widen (k := (rm_X11_needPoints).cells) (n := (rm_X11_needPoints).slots) (Nat.le_of_ble_eq_true rfl) (Nat.le_of_ble_eq_true rfl) (mr_vret X hr hlk hH ⟨_, rfl, rfl⟩ (dk DX11_needPoints_0 15 rfl)))
  · replace hF := if_f hF c4
    cases sm hF
    exact mr_throwSW X hno hlk hl.1 hst hH 1 9 (by decide +kernel) (by decide +kernel) (by decide +kernel) exT_X11_87 kL_X11_83 kN_ex1 (dk DX11_needPoints_0 10 rfl) (dk DX11_needPoints_0 11 rfl) (dk DX11_needPoints_0 12 rfl) (dk DX11_needPoints_0 13 rfl) (dk DX11_needPoints_0 14 rfl) ⟨Nat.le_of_ble_eq_true rfl, Nat.le_of_ble_eq_true rfl, Nat.le_of_ble_eq_true rfl, Nat.le_of_ble_eq_true rfl⟩ (Nat.le_of_ble_eq_true rfl) (Nat.le_of_ble_eq_true rfl) ⟨_, rfl, rfl, rfl⟩
-- X11_across
abbrev rm_X11_across : Room := { frames := 7, cells := 1, slots := 6, locals := 112 }
theorem hd_X11_across : mHd yX11_across 1 := ⟨by decide +kernel, by decide +kernel, by decide +kernel⟩
theorem DX11_across_0 : ∀ t ∈ ([(0, .aload_n 0, 1), (1, .lload_n 1, 1), (2, .invokevirtual 130, 3), (5, .aload_n 0, 1), (6, .getfield 19, 3), (9, .lload_n 1, 1), (10, .invokevirtual 134, 3), (13, .lreturn, 1)] : List (Nat × Instr × Nat)), decode cX11_across t.1 = .ok (t.2.1, t.2.2) := by decide +kernel
noncomputable def f_X11_across (st : OS) (st_n : OS) (a0 : Int64) : Option (Nat ⊕ (Int64)) := (f_X11_needPoints st st_n a0).bind (fun x1 => match x1 with | .inl k9 => some (.inl k9) | .inr y3 => (f_X10_acrossFrom st_n a0).bind (fun x4 => some (.inr x4)))
set_option maxHeartbeats 4000000 in
set_option maxRecDepth 100000 in
theorem c_X11_across {l : Launch} (hst : l.stackTraces = false) {G : mG} {h : mM} {q : Nat → Nat} {q_n : Nat → Nat} (hq : oinj LX11 q) (hq_n : oinj LX10 q_n) (ha : oap [(LX11, q), (LX10, q_n)]) (lk_n : q 1 = q_n 5) {st : OS} {st_n : OS} {a0 : Int64} {x : Nat ⊕ (Int64)} (hF : f_X11_across st st_n a0 = some x) : xQ l G yX11_across cX11_across 3 (some FieldType.long) rm_X11_across [.ref (q 10), .long a0] (oset LX11 G q st (oset LX10 G q_n st_n h)) (mQl G (fun r h1 => ∃ y, x = .inr y ∧ r = y ∧ h1 = oset LX11 G q st (oset LX10 G q_n st_n h))) (fun E h1 => ∃ k, x = .inl k ∧ E = exN k ∧ h1 = oset LX11 G q st (oset LX10 G q_n st_n h)) := by
  refine xp_of (by decide +kernel) (Nat.le_of_ble_eq_true rfl) ?_
  intro p e s m below meth c X hr hlk hno hH ls hl
  dsimp only [f_X11_across] at hF
  replace hl : lv_has ls 3 [(0, .ref (q 10)), (1, .long a0)] := hl
  refine lv_aload_n X.x X.b (dk DX11_across_0 0 rfl) rfl (lv_at hl 0 rfl) ?_
  refine lv_lload_n X.x X.b (dk DX11_across_0 1 rfl) rfl (lv_at hl 1 rfl) ?_
  obtain ⟨x1, e2, hF⟩ := bd hF
  refine mr_xv hH (mr_xrunV (As := [.long a0]) (rest := []) X hH (c_X11_needPoints hst hq hq_n ha lk_n e2) ((oset_at hq (Nat.le_refl _) ohas_N).trans (congrArg some ocell_N)) OX11.1 kM_X11_130 kI_X11_needPoints kS_X11_needPoints kN_X11 kC_X11_needPoints hd_X11_needPoints ⟨Nat.le_of_ble_eq_true rfl, Nat.le_of_ble_eq_true rfl⟩ rfl hl.1 (Nat.le_of_ble_eq_true rfl) (dk DX11_across_0 2 rfl) ⟨Nat.le_of_ble_eq_true rfl, Nat.le_of_ble_eq_true rfl⟩) (fun E h1 q9 H locs hp hH hth => ?_) (fun h1 H locs hp hH => ?_)
  · obtain ⟨k9, hk9, hE, hh9⟩ := hp
    subst hk9
    rw [hh9] at hH
    cases sm hF
    exact mr_xout hno hlk hH hth ⟨_, rfl, hE, rfl⟩ (Nat.le_of_ble_eq_true rfl) (Nat.le_of_ble_eq_true rfl)
  · obtain ⟨y3, hy9, hr2⟩ := hp
    subst hy9
    rw [hr2] at hH; clear hr2
    try dsimp only at hF
    refine lv_aload_n X.x X.b (dk DX11_across_0 3 rfl) rfl (lv_at hl 0 rfl) ?_
    refine og_getR (t := 4) OX11 X hq hH 1 (by decide) rfl kF_X11_19 (dk DX11_across_0 4 rfl) ?_
    rw [lk_n]
    refine lv_lload_n X.x X.b (dk DX11_across_0 5 rfl) rfl (lv_at hl 1 rfl) ?_
    obtain ⟨x4, e5, hF⟩ := bd hF
    refine mr_cl0 (mH_perm (l1 := [(LX11, q, st), (LX10, q_n, st_n)]) (l2 := [(LX10, q_n, st_n), (LX11, q, st)]) ha [1, 0] [1, 0] rfl rfl rfl hH) ⟨rfl, rfl⟩ (mr_runV (As := [.long a0]) (rest := []) X (mH_perm (l1 := [(LX11, q, st), (LX10, q_n, st_n)]) (l2 := [(LX10, q_n, st_n), (LX11, q, st)]) ha [1, 0] [1, 0] rfl rfl rfl hH) (c_X10_acrossFrom hq_n e5) ((oset_at hq_n (Nat.le_refl _) ohas_N).trans (congrArg some ocell_N)) OX10.1 kM_X11_134 kI_X10_acrossFrom kS_X10_acrossFrom kN_X10 kC_X10_acrossFrom hd_X10_acrossFrom ⟨Nat.le_of_ble_eq_true rfl, Nat.le_of_ble_eq_true rfl⟩ rfl hl.1 (Nat.le_of_ble_eq_true rfl) (dk DX11_across_0 6 rfl) ⟨Nat.le_of_ble_eq_true rfl, Nat.le_of_ble_eq_true rfl⟩) (fun r h1 H locs hp hH => ?_)
    obtain ⟨hr1, hr2⟩ := hp; rw [hr1]; rw [hr2] at hH; clear hr1 hr2
    replace hH : mH G (oset LX11 G q st (oset LX10 G q_n st_n h)) s.heap H locs := mH_unperm (l1 := [(LX11, q, st), (LX10, q_n, st_n)]) (l2 := [(LX10, q_n, st_n), (LX11, q, st)]) ha [1, 0] [1, 0] rfl rfl rfl hH
    cases sm hF
    exact vx_ret (W.widen (k := (rm_X11_across).cells) (n := (rm_X11_across).slots) (Nat.le_of_ble_eq_true rfl) (Nat.le_of_ble_eq_true rfl) (mr_lret X hr hlk hH ⟨_, rfl, rfl, rfl⟩ (dk DX11_across_0 7 rfl)))
-- X11_spanned
abbrev rm_X11_spanned : Room := { frames := 7, cells := 1, slots := 6, locals := 112 }
theorem hd_X11_spanned : mHd yX11_spanned 1 := ⟨by decide +kernel, by decide +kernel, by decide +kernel⟩
theorem DX11_spanned_0 : ∀ t ∈ ([(0, .aload_n 0, 1), (1, .lload_n 1, 1), (2, .invokevirtual 130, 3), (5, .aload_n 0, 1), (6, .getfield 19, 3), (9, .lload_n 1, 1), (10, .invokevirtual 138, 3), (13, .lreturn, 1)] : List (Nat × Instr × Nat)), decode cX11_spanned t.1 = .ok (t.2.1, t.2.2) := by decide +kernel
noncomputable def f_X11_spanned (st : OS) (st_n : OS) (a0 : Int64) : Option (Nat ⊕ (Int64)) := (f_X11_needPoints st st_n a0).bind (fun x1 => match x1 with | .inl k9 => some (.inl k9) | .inr y3 => (f_X10_spanOf st_n a0).bind (fun x4 => some (.inr x4)))
set_option maxHeartbeats 4000000 in
set_option maxRecDepth 100000 in
theorem c_X11_spanned {l : Launch} (hst : l.stackTraces = false) {G : mG} {h : mM} {q : Nat → Nat} {q_n : Nat → Nat} (hq : oinj LX11 q) (hq_n : oinj LX10 q_n) (ha : oap [(LX11, q), (LX10, q_n)]) (lk_n : q 1 = q_n 5) {st : OS} {st_n : OS} {a0 : Int64} {x : Nat ⊕ (Int64)} (hF : f_X11_spanned st st_n a0 = some x) : xQ l G yX11_spanned cX11_spanned 3 (some FieldType.long) rm_X11_spanned [.ref (q 10), .long a0] (oset LX11 G q st (oset LX10 G q_n st_n h)) (mQl G (fun r h1 => ∃ y, x = .inr y ∧ r = y ∧ h1 = oset LX11 G q st (oset LX10 G q_n st_n h))) (fun E h1 => ∃ k, x = .inl k ∧ E = exN k ∧ h1 = oset LX11 G q st (oset LX10 G q_n st_n h)) := by
  refine xp_of (by decide +kernel) (Nat.le_of_ble_eq_true rfl) ?_
  intro p e s m below meth c X hr hlk hno hH ls hl
  dsimp only [f_X11_spanned] at hF
  replace hl : lv_has ls 3 [(0, .ref (q 10)), (1, .long a0)] := hl
  refine lv_aload_n X.x X.b (dk DX11_spanned_0 0 rfl) rfl (lv_at hl 0 rfl) ?_
  refine lv_lload_n X.x X.b (dk DX11_spanned_0 1 rfl) rfl (lv_at hl 1 rfl) ?_
  obtain ⟨x1, e2, hF⟩ := bd hF
  refine mr_xv hH (mr_xrunV (As := [.long a0]) (rest := []) X hH (c_X11_needPoints hst hq hq_n ha lk_n e2) ((oset_at hq (Nat.le_refl _) ohas_N).trans (congrArg some ocell_N)) OX11.1 kM_X11_130 kI_X11_needPoints kS_X11_needPoints kN_X11 kC_X11_needPoints hd_X11_needPoints ⟨Nat.le_of_ble_eq_true rfl, Nat.le_of_ble_eq_true rfl⟩ rfl hl.1 (Nat.le_of_ble_eq_true rfl) (dk DX11_spanned_0 2 rfl) ⟨Nat.le_of_ble_eq_true rfl, Nat.le_of_ble_eq_true rfl⟩) (fun E h1 q9 H locs hp hH hth => ?_) (fun h1 H locs hp hH => ?_)
  · obtain ⟨k9, hk9, hE, hh9⟩ := hp
    subst hk9
    rw [hh9] at hH
    cases sm hF
    exact mr_xout hno hlk hH hth ⟨_, rfl, hE, rfl⟩ (Nat.le_of_ble_eq_true rfl) (Nat.le_of_ble_eq_true rfl)
  · obtain ⟨y3, hy9, hr2⟩ := hp
    subst hy9
    rw [hr2] at hH; clear hr2
    try dsimp only at hF
    refine lv_aload_n X.x X.b (dk DX11_spanned_0 3 rfl) rfl (lv_at hl 0 rfl) ?_
    refine og_getR (t := 4) OX11 X hq hH 1 (by decide) rfl kF_X11_19 (dk DX11_spanned_0 4 rfl) ?_
    rw [lk_n]
    refine lv_lload_n X.x X.b (dk DX11_spanned_0 5 rfl) rfl (lv_at hl 1 rfl) ?_
    obtain ⟨x4, e5, hF⟩ := bd hF
    refine mr_cl0 (mH_perm (l1 := [(LX11, q, st), (LX10, q_n, st_n)]) (l2 := [(LX10, q_n, st_n), (LX11, q, st)]) ha [1, 0] [1, 0] rfl rfl rfl hH) ⟨rfl, rfl⟩ (mr_runV (As := [.long a0]) (rest := []) X (mH_perm (l1 := [(LX11, q, st), (LX10, q_n, st_n)]) (l2 := [(LX10, q_n, st_n), (LX11, q, st)]) ha [1, 0] [1, 0] rfl rfl rfl hH) (c_X10_spanOf hq_n e5) ((oset_at hq_n (Nat.le_refl _) ohas_N).trans (congrArg some ocell_N)) OX10.1 kM_X11_138 kI_X10_spanOf kS_X10_spanOf kN_X10 kC_X10_spanOf hd_X10_spanOf ⟨Nat.le_of_ble_eq_true rfl, Nat.le_of_ble_eq_true rfl⟩ rfl hl.1 (Nat.le_of_ble_eq_true rfl) (dk DX11_spanned_0 6 rfl) ⟨Nat.le_of_ble_eq_true rfl, Nat.le_of_ble_eq_true rfl⟩) (fun r h1 H locs hp hH => ?_)
    obtain ⟨hr1, hr2⟩ := hp; rw [hr1]; rw [hr2] at hH; clear hr1 hr2
    replace hH : mH G (oset LX11 G q st (oset LX10 G q_n st_n h)) s.heap H locs := mH_unperm (l1 := [(LX11, q, st), (LX10, q_n, st_n)]) (l2 := [(LX10, q_n, st_n), (LX11, q, st)]) ha [1, 0] [1, 0] rfl rfl rfl hH
    cases sm hF
    exact vx_ret (W.widen (k := (rm_X11_spanned).cells) (n := (rm_X11_spanned).slots) (Nat.le_of_ble_eq_true rfl) (Nat.le_of_ble_eq_true rfl) (mr_lret X hr hlk hH ⟨_, rfl, rfl, rfl⟩ (dk DX11_spanned_0 7 rfl)))
-- X11_hyper
abbrev rm_X11_hyper : Room := { frames := 7, cells := 2, slots := 12, locals := 111 }
theorem hd_X11_hyper : mHd yX11_hyper 2 := ⟨by decide +kernel, by decide +kernel, by decide +kernel⟩
theorem DX11_hyper_0 : ∀ t ∈ ([(0, .aload_n 0, 1), (1, .iload_n 1, 1), (2, .invokevirtual 117, 3), (5, .aload_n 0, 1), (6, .iload_n 2, 1), (7, .invokevirtual 117, 3), (10, .aload_n 0, 1), (11, .getfield 19, 3), (14, .iload_n 1, 1), (15, .iload_n 2, 1), (16, .invokevirtual 141, 3), (19, .lreturn, 1)] : List (Nat × Instr × Nat)), decode cX11_hyper t.1 = .ok (t.2.1, t.2.2) := by decide +kernel
noncomputable def f_X11_hyper (st : OS) (st_n : OS) (a0 : Int32) (a1 : Int32) : Option (Nat ⊕ (Int64)) := (f_X11_needPoint st st_n a0).bind (fun x1 => match x1 with | .inl k9 => some (.inl k9) | .inr y3 => (f_X11_needPoint st st_n a1).bind (fun x4 => match x4 with | .inl k9 => some (.inl k9) | .inr y6 => (f_X10_hyperOf st_n a0 a1).bind (fun x7 => some (.inr x7))))
set_option maxHeartbeats 4000000 in
set_option maxRecDepth 100000 in
theorem c_X11_hyper {l : Launch} (hst : l.stackTraces = false) {G : mG} {h : mM} {q : Nat → Nat} {q_n : Nat → Nat} (hq : oinj LX11 q) (hq_n : oinj LX10 q_n) (ha : oap [(LX11, q), (LX10, q_n)]) (lk_n : q 1 = q_n 5) {st : OS} {st_n : OS} {a0 : Int32} {a1 : Int32} {x : Nat ⊕ (Int64)} (hF : f_X11_hyper st st_n a0 a1 = some x) : xQ l G yX11_hyper cX11_hyper 3 (some FieldType.long) rm_X11_hyper [.ref (q 10), .int a0, .int a1] (oset LX11 G q st (oset LX10 G q_n st_n h)) (mQl G (fun r h1 => ∃ y, x = .inr y ∧ r = y ∧ h1 = oset LX11 G q st (oset LX10 G q_n st_n h))) (fun E h1 => ∃ k, x = .inl k ∧ E = exN k ∧ h1 = oset LX11 G q st (oset LX10 G q_n st_n h)) := by
  refine xp_of (by decide +kernel) (Nat.le_of_ble_eq_true rfl) ?_
  intro p e s m below meth c X hr hlk hno hH ls hl
  dsimp only [f_X11_hyper] at hF
  replace hl : lv_has ls 3 [(0, .ref (q 10)), (1, .int a0), (2, .int a1)] := hl
  refine lv_aload_n X.x X.b (dk DX11_hyper_0 0 rfl) rfl (lv_at hl 0 rfl) ?_
  refine lv_iload_n X.x X.b (dk DX11_hyper_0 1 rfl) rfl (lv_at hl 1 rfl) ?_
  obtain ⟨x1, e2, hF⟩ := bd hF
  refine mr_xv hH (mr_xrunV (As := [.int a0]) (rest := []) X hH (c_X11_needPoint hst hq hq_n ha lk_n e2) ((oset_at hq (Nat.le_refl _) ohas_N).trans (congrArg some ocell_N)) OX11.1 kM_X11_117 kI_X11_needPoint kS_X11_needPoint kN_X11 kC_X11_needPoint hd_X11_needPoint ⟨Nat.le_of_ble_eq_true rfl, Nat.le_of_ble_eq_true rfl⟩ rfl hl.1 (Nat.le_of_ble_eq_true rfl) (dk DX11_hyper_0 2 rfl) ⟨Nat.le_of_ble_eq_true rfl, Nat.le_of_ble_eq_true rfl⟩) (fun E h1 q9 H locs hp hH hth => ?_) (fun h1 H locs hp hH => ?_)
  · obtain ⟨k9, hk9, hE, hh9⟩ := hp
    subst hk9
    rw [hh9] at hH
    cases sm hF
    exact mr_xout hno hlk hH hth ⟨_, rfl, hE, rfl⟩ (Nat.le_of_ble_eq_true rfl) (Nat.le_of_ble_eq_true rfl)
  · obtain ⟨y3, hy9, hr2⟩ := hp
    subst hy9
    rw [hr2] at hH; clear hr2
    try dsimp only at hF
    refine lv_aload_n X.x X.b (dk DX11_hyper_0 3 rfl) rfl (lv_at hl 0 rfl) ?_
    refine lv_iload_n X.x X.b (dk DX11_hyper_0 4 rfl) rfl (lv_at hl 2 rfl) ?_
    obtain ⟨x4, e5, hF⟩ := bd hF
    refine mr_xv hH (mr_xrunV (As := [.int a1]) (rest := []) X hH (c_X11_needPoint hst hq hq_n ha lk_n e5) ((oset_at hq (Nat.le_refl _) ohas_N).trans (congrArg some ocell_N)) OX11.1 kM_X11_117 kI_X11_needPoint kS_X11_needPoint kN_X11 kC_X11_needPoint hd_X11_needPoint ⟨Nat.le_of_ble_eq_true rfl, Nat.le_of_ble_eq_true rfl⟩ rfl hl.1 (Nat.le_of_ble_eq_true rfl) (dk DX11_hyper_0 5 rfl) ⟨Nat.le_of_ble_eq_true rfl, Nat.le_of_ble_eq_true rfl⟩) (fun E h1 q9 H locs hp hH hth => ?_) (fun h1 H locs hp hH => ?_)
    · obtain ⟨k9, hk9, hE, hh9⟩ := hp
      subst hk9
      rw [hh9] at hH
      cases sm hF
      exact mr_xout hno hlk hH hth ⟨_, rfl, hE, rfl⟩ (Nat.le_of_ble_eq_true rfl) (Nat.le_of_ble_eq_true rfl)
    · obtain ⟨y6, hy9, hr2⟩ := hp
      subst hy9
      rw [hr2] at hH; clear hr2
      try dsimp only at hF
      refine lv_aload_n X.x X.b (dk DX11_hyper_0 6 rfl) rfl (lv_at hl 0 rfl) ?_
      refine og_getR (t := 4) OX11 X hq hH 1 (by decide) rfl kF_X11_19 (dk DX11_hyper_0 7 rfl) ?_
      rw [lk_n]
      refine lv_iload_n X.x X.b (dk DX11_hyper_0 8 rfl) rfl (lv_at hl 1 rfl) ?_
      refine lv_iload_n X.x X.b (dk DX11_hyper_0 9 rfl) rfl (lv_at hl 2 rfl) ?_
      obtain ⟨x7, e8, hF⟩ := bd hF
      refine mr_cl0 (mH_perm (l1 := [(LX11, q, st), (LX10, q_n, st_n)]) (l2 := [(LX10, q_n, st_n), (LX11, q, st)]) ha [1, 0] [1, 0] rfl rfl rfl hH) ⟨rfl, rfl⟩ (mr_runV (As := [.int a0, .int a1]) (rest := []) X (mH_perm (l1 := [(LX11, q, st), (LX10, q_n, st_n)]) (l2 := [(LX10, q_n, st_n), (LX11, q, st)]) ha [1, 0] [1, 0] rfl rfl rfl hH) (c_X10_hyperOf hq_n e8) ((oset_at hq_n (Nat.le_refl _) ohas_N).trans (congrArg some ocell_N)) OX10.1 kM_X11_141 kI_X10_hyperOf kS_X10_hyperOf kN_X10 kC_X10_hyperOf hd_X10_hyperOf ⟨Nat.le_of_ble_eq_true rfl, Nat.le_of_ble_eq_true rfl⟩ rfl hl.1 (Nat.le_of_ble_eq_true rfl) (dk DX11_hyper_0 10 rfl) ⟨Nat.le_of_ble_eq_true rfl, Nat.le_of_ble_eq_true rfl⟩) (fun r h1 H locs hp hH => ?_)
      obtain ⟨hr1, hr2⟩ := hp; rw [hr1]; rw [hr2] at hH; clear hr1 hr2
      replace hH : mH G (oset LX11 G q st (oset LX10 G q_n st_n h)) s.heap H locs := mH_unperm (l1 := [(LX11, q, st), (LX10, q_n, st_n)]) (l2 := [(LX10, q_n, st_n), (LX11, q, st)]) ha [1, 0] [1, 0] rfl rfl rfl hH
      cases sm hF
      exact vx_ret (W.widen (k := (rm_X11_hyper).cells) (n := (rm_X11_hyper).slots) (Nat.le_of_ble_eq_true rfl) (Nat.le_of_ble_eq_true rfl) (mr_lret X hr hlk hH ⟨_, rfl, rfl, rfl⟩ (dk DX11_hyper_0 11 rfl)))
-- X11_regular
abbrev rm_X11_regular : Room := { frames := 7, cells := 2, slots := 12, locals := 111 }
theorem hd_X11_regular : mHd yX11_regular 2 := ⟨by decide +kernel, by decide +kernel, by decide +kernel⟩
theorem DX11_regular_0 : ∀ t ∈ ([(0, .aload_n 0, 1), (1, .iload_n 1, 1), (2, .invokevirtual 117, 3), (5, .aload_n 0, 1), (6, .iload_n 2, 1), (7, .invokevirtual 117, 3), (10, .aload_n 0, 1), (11, .getfield 19, 3), (14, .iload_n 1, 1), (15, .iload_n 2, 1), (16, .invokevirtual 141, 3), (19, .lstore_n 3, 1), (20, .lload_n 3, 1), (21, .lconst 0, 1), (22, .lcmp, 1), (23, .ifCond .eq 25, 3), (26, .lload_n 3, 1), (27, .invokestatic 145, 3), (30, .aload_n 0, 1), (31, .getfield 19, 3), (34, .iload_n 1, 1), (35, .invokevirtual 120, 3), (38, .invokestatic 145, 3), (41, .if_icmp .ne 7, 3), (44, .iconst 1, 1), (45, .goto 4, 3), (48, .iconst 0, 1), (49, .ireturn, 1)] : List (Nat × Instr × Nat)), decode cX11_regular t.1 = .ok (t.2.1, t.2.2) := by decide +kernel
noncomputable def f_X11_regular (st : OS) (st_n : OS) (a0 : Int32) (a1 : Int32) : Option (Nat ⊕ (Int32)) := (f_X11_needPoint st st_n a0).bind (fun x1 => match x1 with | .inl k9 => some (.inl k9) | .inr y3 => (f_X11_needPoint st st_n a1).bind (fun x4 => match x4 with | .inl k9 => some (.inl k9) | .inr y6 => (f_X10_hyperOf st_n a0 a1).bind (fun x7 => (if (lg_cmp x7 0) = 0 then some (.inr 0) else (f_J13_bitCount_95d88 x7).bind (fun x11 => (f_X10_throughAt st_n a0).bind (fun x14 => (f_J13_bitCount_95d88 x14).bind (fun x17 => (if x11 = x17 then some (.inr 1) else some (.inr 0)))))))))
set_option maxHeartbeats 4000000 in
set_option maxRecDepth 100000 in
theorem c_X11_regular {l : Launch} (hst : l.stackTraces = false) {G : mG} {h : mM} {q : Nat → Nat} {q_n : Nat → Nat} (hq : oinj LX11 q) (hq_n : oinj LX10 q_n) (ha : oap [(LX11, q), (LX10, q_n)]) (lk_n : q 1 = q_n 5) {st : OS} {st_n : OS} {a0 : Int32} {a1 : Int32} {x : Nat ⊕ (Int32)} (hF : f_X11_regular st st_n a0 a1 = some x) : xQ l G yX11_regular cX11_regular 5 (some FieldType.boolean) rm_X11_regular [.ref (q 10), .int a0, .int a1] (oset LX11 G q st (oset LX10 G q_n st_n h)) (mQi G (fun r h1 => ∃ y, x = .inr y ∧ r = y ∧ h1 = oset LX11 G q st (oset LX10 G q_n st_n h))) (fun E h1 => ∃ k, x = .inl k ∧ E = exN k ∧ h1 = oset LX11 G q st (oset LX10 G q_n st_n h)) := by
  refine xp_of (by decide +kernel) (Nat.le_of_ble_eq_true rfl) ?_
  intro p e s m below meth c X hr hlk hno hH ls hl
  dsimp only [f_X11_regular] at hF
  replace hl : lv_has ls 5 [(0, .ref (q 10)), (1, .int a0), (2, .int a1)] := hl
  refine lv_aload_n X.x X.b (dk DX11_regular_0 0 rfl) rfl (lv_at hl 0 rfl) ?_
  refine lv_iload_n X.x X.b (dk DX11_regular_0 1 rfl) rfl (lv_at hl 1 rfl) ?_
  obtain ⟨x1, e2, hF⟩ := bd hF
  refine mr_xv hH (mr_xrunV (As := [.int a0]) (rest := []) X hH (c_X11_needPoint hst hq hq_n ha lk_n e2) ((oset_at hq (Nat.le_refl _) ohas_N).trans (congrArg some ocell_N)) OX11.1 kM_X11_117 kI_X11_needPoint kS_X11_needPoint kN_X11 kC_X11_needPoint hd_X11_needPoint ⟨Nat.le_of_ble_eq_true rfl, Nat.le_of_ble_eq_true rfl⟩ rfl hl.1 (Nat.le_of_ble_eq_true rfl) (dk DX11_regular_0 2 rfl) ⟨Nat.le_of_ble_eq_true rfl, Nat.le_of_ble_eq_true rfl⟩) (fun E h1 q9 H locs hp hH hth => ?_) (fun h1 H locs hp hH => ?_)
  · obtain ⟨k9, hk9, hE, hh9⟩ := hp
    subst hk9
    rw [hh9] at hH
    cases sm hF
    exact mr_xout hno hlk hH hth ⟨_, rfl, hE, rfl⟩ (Nat.le_of_ble_eq_true rfl) (Nat.le_of_ble_eq_true rfl)
  · obtain ⟨y3, hy9, hr2⟩ := hp
    subst hy9
    rw [hr2] at hH; clear hr2
    try dsimp only at hF
    refine lv_aload_n X.x X.b (dk DX11_regular_0 3 rfl) rfl (lv_at hl 0 rfl) ?_
    refine lv_iload_n X.x X.b (dk DX11_regular_0 4 rfl) rfl (lv_at hl 2 rfl) ?_
    obtain ⟨x4, e5, hF⟩ := bd hF
    refine mr_xv hH (mr_xrunV (As := [.int a1]) (rest := []) X hH (c_X11_needPoint hst hq hq_n ha lk_n e5) ((oset_at hq (Nat.le_refl _) ohas_N).trans (congrArg some ocell_N)) OX11.1 kM_X11_117 kI_X11_needPoint kS_X11_needPoint kN_X11 kC_X11_needPoint hd_X11_needPoint ⟨Nat.le_of_ble_eq_true rfl, Nat.le_of_ble_eq_true rfl⟩ rfl hl.1 (Nat.le_of_ble_eq_true rfl) (dk DX11_regular_0 5 rfl) ⟨Nat.le_of_ble_eq_true rfl, Nat.le_of_ble_eq_true rfl⟩) (fun E h1 q9 H locs hp hH hth => ?_) (fun h1 H locs hp hH => ?_)
    · obtain ⟨k9, hk9, hE, hh9⟩ := hp
      subst hk9
      rw [hh9] at hH
      cases sm hF
      exact mr_xout hno hlk hH hth ⟨_, rfl, hE, rfl⟩ (Nat.le_of_ble_eq_true rfl) (Nat.le_of_ble_eq_true rfl)
    · obtain ⟨y6, hy9, hr2⟩ := hp
      subst hy9
      rw [hr2] at hH; clear hr2
      try dsimp only at hF
      refine lv_aload_n X.x X.b (dk DX11_regular_0 6 rfl) rfl (lv_at hl 0 rfl) ?_
      refine og_getR (t := 4) OX11 X hq hH 1 (by decide) rfl kF_X11_19 (dk DX11_regular_0 7 rfl) ?_
      rw [lk_n]
      refine lv_iload_n X.x X.b (dk DX11_regular_0 8 rfl) rfl (lv_at hl 1 rfl) ?_
      refine lv_iload_n X.x X.b (dk DX11_regular_0 9 rfl) rfl (lv_at hl 2 rfl) ?_
      obtain ⟨x7, e8, hF⟩ := bd hF
      refine mr_cl0 (mH_perm (l1 := [(LX11, q, st), (LX10, q_n, st_n)]) (l2 := [(LX10, q_n, st_n), (LX11, q, st)]) ha [1, 0] [1, 0] rfl rfl rfl hH) ⟨rfl, rfl⟩ (mr_runV (As := [.int a0, .int a1]) (rest := []) X (mH_perm (l1 := [(LX11, q, st), (LX10, q_n, st_n)]) (l2 := [(LX10, q_n, st_n), (LX11, q, st)]) ha [1, 0] [1, 0] rfl rfl rfl hH) (c_X10_hyperOf hq_n e8) ((oset_at hq_n (Nat.le_refl _) ohas_N).trans (congrArg some ocell_N)) OX10.1 kM_X11_141 kI_X10_hyperOf kS_X10_hyperOf kN_X10 kC_X10_hyperOf hd_X10_hyperOf ⟨Nat.le_of_ble_eq_true rfl, Nat.le_of_ble_eq_true rfl⟩ rfl hl.1 (Nat.le_of_ble_eq_true rfl) (dk DX11_regular_0 10 rfl) ⟨Nat.le_of_ble_eq_true rfl, Nat.le_of_ble_eq_true rfl⟩) (fun r h1 H locs hp hH => ?_)
      obtain ⟨hr1, hr2⟩ := hp; rw [hr1]; rw [hr2] at hH; clear hr1 hr2
      replace hH : mH G (oset LX11 G q st (oset LX10 G q_n st_n h)) s.heap H locs := mH_unperm (l1 := [(LX11, q, st), (LX10, q_n, st_n)]) (l2 := [(LX10, q_n, st_n), (LX11, q, st)]) ha [1, 0] [1, 0] rfl rfl rfl hH
      refine lv_lstore_n (lv' := [(3, .long x7), (0, .ref (q 10)), (1, .int a0), (2, .int a1)]) X.x X.b (dk DX11_regular_0 11 rfl) rfl hl (by decide) rfl (fun ls hl => ?_)
      replace hl : lv_has ls 5 [(0, .ref (q 10)), (1, .int a0), (3, .long x7)] := lv_sub hl [1, 2, 0] rfl
      refine lv_lload_n X.x X.b (dk DX11_regular_0 12 rfl) rfl (lv_at hl 2 rfl) ?_
      refine lv_lconst (v := 0) X.x X.b (dk DX11_regular_0 13 rfl) (by decide) ?_
      refine W.lcmp X.x X.b (dk DX11_regular_0 14 rfl) ?_
      refine lv_if_eq (tgt := 48) X.x X.b (dk DX11_regular_0 15 rfl) (by decide) (fun c10 => ?_) (fun c10 => ?_)
      · replace hF := if_t hF c10
        refine lv_iconst (v := 0) X.x X.b (dk DX11_regular_0 26 rfl) (by decide) ?_
        cases sm hF
        exact vx_ret (W.widen (k := (rm_X11_regular).cells) (n := (rm_X11_regular).slots) (Nat.le_of_ble_eq_true rfl) (Nat.le_of_ble_eq_true rfl) (mr_zret X hr hlk hH rfl ⟨_, rfl, rfl, rfl⟩ (dk DX11_regular_0 27 rfl)))
      · replace hF := if_f hF c10
        refine lv_lload_n X.x X.b (dk DX11_regular_0 16 rfl) rfl (lv_at hl 2 rfl) ?_
        obtain ⟨x11, e12, hF⟩ := bd hF
        refine mr_ci0 hH ⟨rfl, rfl⟩ (mr_runS (As := [.long x7]) (rest := []) X hH (c_J13_bitCount_95d88 e12) kM_X11_145 kT_J13_bitCount_95d88 kN_J13 kC_J13_bitCount_95d88 hd_J13_bitCount_95d88 ⟨Nat.le_of_ble_eq_true rfl, Nat.le_of_ble_eq_true rfl⟩ rfl hl.1 (Nat.le_of_ble_eq_true rfl) (dk DX11_regular_0 17 rfl) ⟨Nat.le_of_ble_eq_true rfl, Nat.le_of_ble_eq_true rfl⟩) (fun r h1 H locs hp hH => ?_)
        obtain ⟨hr1, hr2⟩ := hp; rw [hr1]; rw [hr2] at hH; clear hr1 hr2
        refine lv_aload_n X.x X.b (dk DX11_regular_0 18 rfl) rfl (lv_at hl 0 rfl) ?_
        refine og_getR (t := 4) OX11 X hq hH 1 (by decide) rfl kF_X11_19 (dk DX11_regular_0 19 rfl) ?_
        rw [lk_n]
        refine lv_iload_n X.x X.b (dk DX11_regular_0 20 rfl) rfl (lv_at hl 1 rfl) ?_
        obtain ⟨x14, e15, hF⟩ := bd hF
        refine mr_cl0 (mH_perm (l1 := [(LX11, q, st), (LX10, q_n, st_n)]) (l2 := [(LX10, q_n, st_n), (LX11, q, st)]) ha [1, 0] [1, 0] rfl rfl rfl hH) ⟨rfl, rfl⟩ (mr_runV (As := [.int a0]) (rest := [.int x11]) X (mH_perm (l1 := [(LX11, q, st), (LX10, q_n, st_n)]) (l2 := [(LX10, q_n, st_n), (LX11, q, st)]) ha [1, 0] [1, 0] rfl rfl rfl hH) (c_X10_throughAt hq_n e15) ((oset_at hq_n (Nat.le_refl _) ohas_N).trans (congrArg some ocell_N)) OX10.1 kM_X11_120 kI_X10_throughAt kS_X10_throughAt kN_X10 kC_X10_throughAt hd_X10_throughAt ⟨Nat.le_of_ble_eq_true rfl, Nat.le_of_ble_eq_true rfl⟩ rfl hl.1 (Nat.le_of_ble_eq_true rfl) (dk DX11_regular_0 21 rfl) ⟨Nat.le_of_ble_eq_true rfl, Nat.le_of_ble_eq_true rfl⟩) (fun r h1 H locs hp hH => ?_)
        obtain ⟨hr1, hr2⟩ := hp; rw [hr1]; rw [hr2] at hH; clear hr1 hr2
        replace hH : mH G (oset LX11 G q st (oset LX10 G q_n st_n h)) s.heap H locs := mH_unperm (l1 := [(LX11, q, st), (LX10, q_n, st_n)]) (l2 := [(LX10, q_n, st_n), (LX11, q, st)]) ha [1, 0] [1, 0] rfl rfl rfl hH
        obtain ⟨x17, e18, hF⟩ := bd hF
        refine mr_ci0 hH ⟨rfl, rfl⟩ (mr_runS (As := [.long x14]) (rest := [.int x11]) X hH (c_J13_bitCount_95d88 e18) kM_X11_145 kT_J13_bitCount_95d88 kN_J13 kC_J13_bitCount_95d88 hd_J13_bitCount_95d88 ⟨Nat.le_of_ble_eq_true rfl, Nat.le_of_ble_eq_true rfl⟩ rfl hl.1 (Nat.le_of_ble_eq_true rfl) (dk DX11_regular_0 22 rfl) ⟨Nat.le_of_ble_eq_true rfl, Nat.le_of_ble_eq_true rfl⟩) (fun r h1 H locs hp hH => ?_)
        obtain ⟨hr1, hr2⟩ := hp; rw [hr1]; rw [hr2] at hH; clear hr1 hr2
        refine lv_icmp_ne (tgt := 48) X.x X.b (dk DX11_regular_0 23 rfl) (by decide) (fun c20 => ?_) (fun c20 => ?_)
        · replace hF := if_f hF c20
          refine lv_iconst (v := 0) X.x X.b (dk DX11_regular_0 26 rfl) (by decide) ?_
          cases sm hF
          exact vx_ret (W.widen (k := (rm_X11_regular).cells) (n := (rm_X11_regular).slots) (Nat.le_of_ble_eq_true rfl) (Nat.le_of_ble_eq_true rfl) (mr_zret X hr hlk hH rfl ⟨_, rfl, rfl, rfl⟩ (dk DX11_regular_0 27 rfl)))
        · replace hF := if_t hF c20
          refine lv_iconst (v := 1) X.x X.b (dk DX11_regular_0 24 rfl) (by decide) ?_
          refine lv_goto (tgt := 49) X.x X.b (dk DX11_regular_0 25 rfl) (by decide) ?_
          cases sm hF
          exact vx_ret (W.widen (k := (rm_X11_regular).cells) (n := (rm_X11_regular).slots) (Nat.le_of_ble_eq_true rfl) (Nat.le_of_ble_eq_true rfl) (mr_zret X hr hlk hH rfl ⟨_, rfl, rfl, rfl⟩ (dk DX11_regular_0 27 rfl)))
-- X11_own
abbrev rm_X11_own : Room := { frames := 6, cells := 1, slots := 6, locals := 129 }
theorem hd_X11_own : mHd yX11_own 2 := ⟨by decide +kernel, by decide +kernel, by decide +kernel⟩
theorem DX11_own_0 : ∀ t ∈ ([(0, .iload_n 1, 1), (1, .ifCond .lt 8, 3), (4, .iload_n 1, 1), (5, .iconst 2, 1), (6, .if_icmp .le 13, 3), (9, .new 83, 3), (12, .dup, 1), (13, .ldc 150, 2), (15, .invokespecial 87, 3), (18, .athrow, 1), (19, .iload_n 2, 1), (20, .ifCond .eq 14, 3), (23, .aload_n 0, 1), (24, .getfield 19, 3), (27, .iload_n 1, 1), (28, .invokestatic 152, 3), (31, .goto 11, 3), (34, .aload_n 0, 1), (35, .getfield 19, 3), (38, .iload_n 1, 1), (39, .invokestatic 158, 3), (42, .ireturn, 1)] : List (Nat × Instr × Nat)), decode cX11_own t.1 = .ok (t.2.1, t.2.2) := by decide +kernel
noncomputable def f_X11_own (st : OS) (st_n : OS) (a0 : Int32) (a1 : Int32) : Option (Nat ⊕ (Int32)) := (if a0 < 0 then some (.inl 1) else (if a0 ≤ 2 then (if a1 = 0 then (f_X2_ownNumber st_n a0).bind (fun x4 => some (.inr x4)) else (f_X2_ownTimes st_n a0).bind (fun x7 => some (.inr x7))) else some (.inl 1)))
set_option maxHeartbeats 4000000 in
set_option maxRecDepth 100000 in
theorem c_X11_own {l : Launch} (hst : l.stackTraces = false) {G : mG} {h : mM} {q : Nat → Nat} {q_n : Nat → Nat} (hq : oinj LX11 q) (hq_n : oinj LX10 q_n) (ha : oap [(LX11, q), (LX10, q_n)]) (lk_n : q 1 = q_n 5) {st : OS} {st_n : OS} {a0 : Int32} {a1 : Int32} {x : Nat ⊕ (Int32)} (hF : f_X11_own st st_n a0 a1 = some x) : xQ l G yX11_own cX11_own 3 (some FieldType.int) rm_X11_own [.ref (q 10), .int a0, .int a1] (oset LX11 G q st (oset LX10 G q_n st_n h)) (mQi G (fun r h1 => ∃ y, x = .inr y ∧ r = y ∧ h1 = oset LX11 G q st (oset LX10 G q_n st_n h))) (fun E h1 => ∃ k, x = .inl k ∧ E = exN k ∧ h1 = oset LX11 G q st (oset LX10 G q_n st_n h)) := by
  refine xp_of (by decide +kernel) (Nat.le_of_ble_eq_true rfl) ?_
  intro p e s m below meth c X hr hlk hno hH ls hl
  dsimp only [f_X11_own] at hF
  replace hl : lv_has ls 3 [(0, .ref (q 10)), (1, .int a0), (2, .int a1)] := hl
  refine lv_iload_n X.x X.b (dk DX11_own_0 0 rfl) rfl (lv_at hl 1 rfl) ?_
  refine lv_if_lt (tgt := 9) X.x X.b (dk DX11_own_0 1 rfl) (by decide) (fun c1 => ?_) (fun c1 => ?_)
  · replace hF := if_t hF c1
    cases sm hF
    exact mr_throwS X hno hlk hl.1 hst hH 1 10 (by decide +kernel) (by decide +kernel) (by decide +kernel) exT_X11_87 kL_X11_83 kN_ex1 (dk DX11_own_0 5 rfl) (dk DX11_own_0 6 rfl) (dk DX11_own_0 7 rfl) (dk DX11_own_0 8 rfl) (dk DX11_own_0 9 rfl) ⟨Nat.le_of_ble_eq_true rfl, Nat.le_of_ble_eq_true rfl, Nat.le_of_ble_eq_true rfl, Nat.le_of_ble_eq_true rfl⟩ (Nat.le_of_ble_eq_true rfl) (Nat.le_of_ble_eq_true rfl) ⟨_, rfl, rfl, rfl⟩
  · replace hF := if_f hF c1
    refine lv_iload_n X.x X.b (dk DX11_own_0 2 rfl) rfl (lv_at hl 1 rfl) ?_
    refine lv_iconst (v := 2) X.x X.b (dk DX11_own_0 3 rfl) (by decide) ?_
    refine lv_icmp_le (tgt := 19) X.x X.b (dk DX11_own_0 4 rfl) (by decide) (fun c2 => ?_) (fun c2 => ?_)
    · replace hF := if_t hF c2
      refine lv_iload_n X.x X.b (dk DX11_own_0 10 rfl) rfl (lv_at hl 2 rfl) ?_
      refine lv_if_eq (tgt := 34) X.x X.b (dk DX11_own_0 11 rfl) (by decide) (fun c3 => ?_) (fun c3 => ?_)
      · replace hF := if_t hF c3
        refine lv_aload_n X.x X.b (dk DX11_own_0 17 rfl) rfl (lv_at hl 0 rfl) ?_
        refine og_getR (t := 4) OX11 X hq hH 1 (by decide) rfl kF_X11_19 (dk DX11_own_0 18 rfl) ?_
        rw [lk_n]
        refine lv_iload_n X.x X.b (dk DX11_own_0 19 rfl) rfl (lv_at hl 1 rfl) ?_
        obtain ⟨x4, e5, hF⟩ := bd hF
        refine mr_ci0 (mH_perm (l1 := [(LX11, q, st), (LX10, q_n, st_n)]) (l2 := [(LX10, q_n, st_n), (LX11, q, st)]) ha [1, 0] [1, 0] rfl rfl rfl hH) ⟨rfl, rfl⟩ (mr_runS (As := [.ref (q_n 5), .int a0]) (rest := []) X (mH_perm (l1 := [(LX11, q, st), (LX10, q_n, st_n)]) (l2 := [(LX10, q_n, st_n), (LX11, q, st)]) ha [1, 0] [1, 0] rfl rfl rfl hH) (c_X2_ownNumber hq_n e5) kM_X11_158 kT_X2_ownNumber kN_X2 kC_X2_ownNumber hd_X2_ownNumber ⟨Nat.le_of_ble_eq_true rfl, Nat.le_of_ble_eq_true rfl⟩ rfl hl.1 (Nat.le_of_ble_eq_true rfl) (dk DX11_own_0 20 rfl) ⟨Nat.le_of_ble_eq_true rfl, Nat.le_of_ble_eq_true rfl⟩) (fun r h1 H locs hp hH => ?_)
        obtain ⟨hr1, hr2⟩ := hp; rw [hr1]; rw [hr2] at hH; clear hr1 hr2
        replace hH : mH G (oset LX11 G q st (oset LX10 G q_n st_n h)) s.heap H locs := mH_unperm (l1 := [(LX11, q, st), (LX10, q_n, st_n)]) (l2 := [(LX10, q_n, st_n), (LX11, q, st)]) ha [1, 0] [1, 0] rfl rfl rfl hH
        cases sm hF
        exact vx_ret (W.widen (k := (rm_X11_own).cells) (n := (rm_X11_own).slots) (Nat.le_of_ble_eq_true rfl) (Nat.le_of_ble_eq_true rfl) (mr_iret X hr hlk hH ⟨_, rfl, rfl, rfl⟩ (dk DX11_own_0 21 rfl)))
      · replace hF := if_f hF c3
        refine lv_aload_n X.x X.b (dk DX11_own_0 12 rfl) rfl (lv_at hl 0 rfl) ?_
        refine og_getR (t := 4) OX11 X hq hH 1 (by decide) rfl kF_X11_19 (dk DX11_own_0 13 rfl) ?_
        rw [lk_n]
        refine lv_iload_n X.x X.b (dk DX11_own_0 14 rfl) rfl (lv_at hl 1 rfl) ?_
        obtain ⟨x7, e8, hF⟩ := bd hF
        refine mr_ci0 (mH_perm (l1 := [(LX11, q, st), (LX10, q_n, st_n)]) (l2 := [(LX10, q_n, st_n), (LX11, q, st)]) ha [1, 0] [1, 0] rfl rfl rfl hH) ⟨rfl, rfl⟩ (mr_runS (As := [.ref (q_n 5), .int a0]) (rest := []) X (mH_perm (l1 := [(LX11, q, st), (LX10, q_n, st_n)]) (l2 := [(LX10, q_n, st_n), (LX11, q, st)]) ha [1, 0] [1, 0] rfl rfl rfl hH) (c_X2_ownTimes hq_n e8) kM_X11_152 kT_X2_ownTimes kN_X2 kC_X2_ownTimes hd_X2_ownTimes ⟨Nat.le_of_ble_eq_true rfl, Nat.le_of_ble_eq_true rfl⟩ rfl hl.1 (Nat.le_of_ble_eq_true rfl) (dk DX11_own_0 15 rfl) ⟨Nat.le_of_ble_eq_true rfl, Nat.le_of_ble_eq_true rfl⟩) (fun r h1 H locs hp hH => ?_)
        obtain ⟨hr1, hr2⟩ := hp; rw [hr1]; rw [hr2] at hH; clear hr1 hr2
        replace hH : mH G (oset LX11 G q st (oset LX10 G q_n st_n h)) s.heap H locs := mH_unperm (l1 := [(LX11, q, st), (LX10, q_n, st_n)]) (l2 := [(LX10, q_n, st_n), (LX11, q, st)]) ha [1, 0] [1, 0] rfl rfl rfl hH
        refine lv_goto (tgt := 42) X.x X.b (dk DX11_own_0 16 rfl) (by decide) ?_
        cases sm hF
        exact vx_ret (W.widen (k := (rm_X11_own).cells) (n := (rm_X11_own).slots) (Nat.le_of_ble_eq_true rfl) (Nat.le_of_ble_eq_true rfl) (mr_iret X hr hlk hH ⟨_, rfl, rfl, rfl⟩ (dk DX11_own_0 21 rfl)))
    · replace hF := if_f hF c2
      cases sm hF
      exact mr_throwS X hno hlk hl.1 hst hH 1 10 (by decide +kernel) (by decide +kernel) (by decide +kernel) exT_X11_87 kL_X11_83 kN_ex1 (dk DX11_own_0 5 rfl) (dk DX11_own_0 6 rfl) (dk DX11_own_0 7 rfl) (dk DX11_own_0 8 rfl) (dk DX11_own_0 9 rfl) ⟨Nat.le_of_ble_eq_true rfl, Nat.le_of_ble_eq_true rfl, Nat.le_of_ble_eq_true rfl, Nat.le_of_ble_eq_true rfl⟩ (Nat.le_of_ble_eq_true rfl) (Nat.le_of_ble_eq_true rfl) ⟨_, rfl, rfl, rfl⟩
-- X11_law
abbrev rm_X11_law : Room := { frames := 3, cells := 0, slots := 0, locals := 66 }
theorem hd_X11_law : mHd yX11_law 0 := ⟨by decide +kernel, by decide +kernel, by decide +kernel⟩
theorem DX11_law_0 : ∀ t ∈ ([(0, .aload_n 0, 1), (1, .getfield 19, 3), (4, .invokestatic 161, 3), (7, .ireturn, 1)] : List (Nat × Instr × Nat)), decode cX11_law t.1 = .ok (t.2.1, t.2.2) := by decide +kernel
noncomputable def f_X11_law (st : OS) (st_n : OS) : Option (Int32) := (f_X2_firstBroken st_n).bind (fun x1 => some x1)
set_option maxHeartbeats 4000000 in
set_option maxRecDepth 100000 in
theorem c_X11_law {l : Launch} {G : mG} {h : mM} {q : Nat → Nat} {q_n : Nat → Nat} (hq : oinj LX11 q) (hq_n : oinj LX10 q_n) (ha : oap [(LX11, q), (LX10, q_n)]) (lk_n : q 1 = q_n 5) {st : OS} {st_n : OS} {x : Int32} (hF : f_X11_law st st_n = some x) : cQ l G yX11_law cX11_law 1 (some FieldType.int) rm_X11_law [.ref (q 10)] (oset LX11 G q st (oset LX10 G q_n st_n h)) (mQi G (fun r h1 => r = x ∧ h1 = oset LX11 G q st (oset LX10 G q_n st_n h))) := by
  refine mp_of (by decide +kernel) (Nat.le_of_ble_eq_true rfl) ?_
  intro p e s m below meth c X hr hlk hH hname ls hl
  dsimp only [f_X11_law] at hF
  replace hl : lv_has ls 1 [(0, .ref (q 10))] := hl
  refine lv_aload_n X.x X.b (dk DX11_law_0 0 rfl) rfl (lv_at hl 0 rfl) ?_
  refine og_getR (t := 4) OX11 X hq hH 1 (by decide) rfl kF_X11_19 (dk DX11_law_0 1 rfl) ?_
  rw [lk_n]
  obtain ⟨x1, e2, hF⟩ := bd hF
  refine mr_ci0 (mH_perm (l1 := [(LX11, q, st), (LX10, q_n, st_n)]) (l2 := [(LX10, q_n, st_n), (LX11, q, st)]) ha [1, 0] [1, 0] rfl rfl rfl hH) ⟨rfl, rfl⟩ (mr_runS (As := [.ref (q_n 5)]) (rest := []) X (mH_perm (l1 := [(LX11, q, st), (LX10, q_n, st_n)]) (l2 := [(LX10, q_n, st_n), (LX11, q, st)]) ha [1, 0] [1, 0] rfl rfl rfl hH) (c_X2_firstBroken hq_n e2) kM_X11_161 kT_X2_firstBroken kN_X2 kC_X2_firstBroken hd_X2_firstBroken ⟨Nat.le_of_ble_eq_true rfl, Nat.le_of_ble_eq_true rfl⟩ rfl hl.1 (Nat.le_of_ble_eq_true rfl) (dk DX11_law_0 2 rfl) ⟨Nat.zero_le _, Nat.zero_le _⟩) (fun r h1 H locs hp hH => ?_)
  obtain ⟨hr1, hr2⟩ := hp; rw [hr1]; rw [hr2] at hH; clear hr1 hr2
  replace hH : mH G (oset LX11 G q st (oset LX10 G q_n st_n h)) s.heap H locs := mH_unperm (l1 := [(LX11, q, st), (LX10, q_n, st_n)]) (l2 := [(LX10, q_n, st_n), (LX11, q, st)]) ha [1, 0] [1, 0] rfl rfl rfl hH
  cases sm hF
  exact mr_iret X hr hlk hH ⟨rfl, rfl⟩ (dk DX11_law_0 3 rfl)
-- X11_order
abbrev rm_X11_order : Room := { frames := 5, cells := 0, slots := 0, locals := 106 }
theorem hd_X11_order : mHd yX11_order 1 := ⟨by decide +kernel, by decide +kernel, by decide +kernel⟩
theorem DX11_order_0 : ∀ t ∈ ([(0, .iload_n 1, 1), (1, .ifCond .eq 13, 3), (4, .aload_n 0, 1), (5, .getfield 19, 3), (8, .invokestatic 165, 3), (11, .goto 10, 3), (14, .aload_n 0, 1), (15, .getfield 19, 3), (18, .invokestatic 168, 3), (21, .ireturn, 1)] : List (Nat × Instr × Nat)), decode cX11_order t.1 = .ok (t.2.1, t.2.2) := by decide +kernel
noncomputable def f_X11_order (st : OS) (st_n : OS) (a0 : Int32) : Option (Int32) := (if a0 = 0 then (f_X2_firstOrder st_n).bind (fun x2 => some x2) else (f_X2_secondOrder st_n).bind (fun x5 => some x5))
set_option maxHeartbeats 4000000 in
set_option maxRecDepth 100000 in
theorem c_X11_order {l : Launch} {G : mG} {h : mM} {q : Nat → Nat} {q_n : Nat → Nat} (hq : oinj LX11 q) (hq_n : oinj LX10 q_n) (ha : oap [(LX11, q), (LX10, q_n)]) (lk_n : q 1 = q_n 5) {st : OS} {st_n : OS} {a0 : Int32} {x : Int32} (hF : f_X11_order st st_n a0 = some x) : cQ l G yX11_order cX11_order 2 (some FieldType.int) rm_X11_order [.ref (q 10), .int a0] (oset LX11 G q st (oset LX10 G q_n st_n h)) (mQi G (fun r h1 => r = x ∧ h1 = oset LX11 G q st (oset LX10 G q_n st_n h))) := by
  refine mp_of (by decide +kernel) (Nat.le_of_ble_eq_true rfl) ?_
  intro p e s m below meth c X hr hlk hH hname ls hl
  dsimp only [f_X11_order] at hF
  replace hl : lv_has ls 2 [(0, .ref (q 10)), (1, .int a0)] := hl
  refine lv_iload_n X.x X.b (dk DX11_order_0 0 rfl) rfl (lv_at hl 1 rfl) ?_
  refine lv_if_eq (tgt := 14) X.x X.b (dk DX11_order_0 1 rfl) (by decide) (fun c1 => ?_) (fun c1 => ?_)
  · replace hF := if_t hF c1
    refine lv_aload_n X.x X.b (dk DX11_order_0 6 rfl) rfl (lv_at hl 0 rfl) ?_
    refine og_getR (t := 4) OX11 X hq hH 1 (by decide) rfl kF_X11_19 (dk DX11_order_0 7 rfl) ?_
    rw [lk_n]
    obtain ⟨x2, e3, hF⟩ := bd hF
    refine mr_ci0 (mH_perm (l1 := [(LX11, q, st), (LX10, q_n, st_n)]) (l2 := [(LX10, q_n, st_n), (LX11, q, st)]) ha [1, 0] [1, 0] rfl rfl rfl hH) ⟨rfl, rfl⟩ (mr_runS (As := [.ref (q_n 5)]) (rest := []) X (mH_perm (l1 := [(LX11, q, st), (LX10, q_n, st_n)]) (l2 := [(LX10, q_n, st_n), (LX11, q, st)]) ha [1, 0] [1, 0] rfl rfl rfl hH) (c_X2_firstOrder hq_n e3) kM_X11_168 kT_X2_firstOrder kN_X2 kC_X2_firstOrder hd_X2_firstOrder ⟨Nat.le_of_ble_eq_true rfl, Nat.le_of_ble_eq_true rfl⟩ rfl hl.1 (Nat.le_of_ble_eq_true rfl) (dk DX11_order_0 8 rfl) ⟨Nat.zero_le _, Nat.zero_le _⟩) (fun r h1 H locs hp hH => ?_)
    obtain ⟨hr1, hr2⟩ := hp; rw [hr1]; rw [hr2] at hH; clear hr1 hr2
    replace hH : mH G (oset LX11 G q st (oset LX10 G q_n st_n h)) s.heap H locs := mH_unperm (l1 := [(LX11, q, st), (LX10, q_n, st_n)]) (l2 := [(LX10, q_n, st_n), (LX11, q, st)]) ha [1, 0] [1, 0] rfl rfl rfl hH
    cases sm hF
    exact mr_iret X hr hlk hH ⟨rfl, rfl⟩ (dk DX11_order_0 9 rfl)
  · replace hF := if_f hF c1
    refine lv_aload_n X.x X.b (dk DX11_order_0 2 rfl) rfl (lv_at hl 0 rfl) ?_
    refine og_getR (t := 4) OX11 X hq hH 1 (by decide) rfl kF_X11_19 (dk DX11_order_0 3 rfl) ?_
    rw [lk_n]
    obtain ⟨x5, e6, hF⟩ := bd hF
    refine mr_ci0 (mH_perm (l1 := [(LX11, q, st), (LX10, q_n, st_n)]) (l2 := [(LX10, q_n, st_n), (LX11, q, st)]) ha [1, 0] [1, 0] rfl rfl rfl hH) ⟨rfl, rfl⟩ (mr_runS (As := [.ref (q_n 5)]) (rest := []) X (mH_perm (l1 := [(LX11, q, st), (LX10, q_n, st_n)]) (l2 := [(LX10, q_n, st_n), (LX11, q, st)]) ha [1, 0] [1, 0] rfl rfl rfl hH) (c_X2_secondOrder hq_n e6) kM_X11_165 kT_X2_secondOrder kN_X2 kC_X2_secondOrder hd_X2_secondOrder ⟨Nat.le_of_ble_eq_true rfl, Nat.le_of_ble_eq_true rfl⟩ rfl hl.1 (Nat.le_of_ble_eq_true rfl) (dk DX11_order_0 4 rfl) ⟨Nat.zero_le _, Nat.zero_le _⟩) (fun r h1 H locs hp hH => ?_)
    obtain ⟨hr1, hr2⟩ := hp; rw [hr1]; rw [hr2] at hH; clear hr1 hr2
    replace hH : mH G (oset LX11 G q st (oset LX10 G q_n st_n h)) s.heap H locs := mH_unperm (l1 := [(LX11, q, st), (LX10, q_n, st_n)]) (l2 := [(LX10, q_n, st_n), (LX11, q, st)]) ha [1, 0] [1, 0] rfl rfl rfl hH
    refine lv_goto (tgt := 21) X.x X.b (dk DX11_order_0 5 rfl) (by decide) ?_
    cases sm hF
    exact mr_iret X hr hlk hH ⟨rfl, rfl⟩ (dk DX11_order_0 9 rfl)
-- X11_meets
abbrev rm_X11_meets : Room := { frames := 7, cells := 2, slots := 12, locals := 112 }
theorem hd_X11_meets : mHd yX11_meets 2 := ⟨by decide +kernel, by decide +kernel, by decide +kernel⟩
theorem DX11_meets_0 : ∀ t ∈ ([(0, .aload_n 0, 1), (1, .iload_n 3, 1), (2, .invokevirtual 110, 3), (5, .aload_n 0, 1), (6, .lload_n 1, 1), (7, .invokevirtual 130, 3), (10, .aload_n 0, 1), (11, .getfield 19, 3), (14, .iload_n 3, 1), (15, .invokevirtual 113, 3), (18, .lload_n 1, 1), (19, .land, 1), (20, .invokestatic 145, 3), (23, .ireturn, 1)] : List (Nat × Instr × Nat)), decode cX11_meets t.1 = .ok (t.2.1, t.2.2) := by decide +kernel
noncomputable def f_X11_meets (st : OS) (st_n : OS) (a0 : Int64) (a1 : Int32) : Option (Nat ⊕ (Int32)) := (f_X11_needLine st st_n a1).bind (fun x1 => match x1 with | .inl k9 => some (.inl k9) | .inr y3 => (f_X11_needPoints st st_n a0).bind (fun x4 => match x4 with | .inl k9 => some (.inl k9) | .inr y6 => (f_X10_setAt st_n a1).bind (fun x7 => (f_J13_bitCount_95d88 (x7 &&& a0)).bind (fun x10 => some (.inr x10)))))
set_option maxHeartbeats 4000000 in
set_option maxRecDepth 100000 in
theorem c_X11_meets {l : Launch} (hst : l.stackTraces = false) {G : mG} {h : mM} {q : Nat → Nat} {q_n : Nat → Nat} (hq : oinj LX11 q) (hq_n : oinj LX10 q_n) (ha : oap [(LX11, q), (LX10, q_n)]) (lk_n : q 1 = q_n 5) {st : OS} {st_n : OS} {a0 : Int64} {a1 : Int32} {x : Nat ⊕ (Int32)} (hF : f_X11_meets st st_n a0 a1 = some x) : xQ l G yX11_meets cX11_meets 4 (some FieldType.int) rm_X11_meets [.ref (q 10), .long a0, .int a1] (oset LX11 G q st (oset LX10 G q_n st_n h)) (mQi G (fun r h1 => ∃ y, x = .inr y ∧ r = y ∧ h1 = oset LX11 G q st (oset LX10 G q_n st_n h))) (fun E h1 => ∃ k, x = .inl k ∧ E = exN k ∧ h1 = oset LX11 G q st (oset LX10 G q_n st_n h)) := by
  refine xp_of (by decide +kernel) (Nat.le_of_ble_eq_true rfl) ?_
  intro p e s m below meth c X hr hlk hno hH ls hl
  dsimp only [f_X11_meets] at hF
  replace hl : lv_has ls 4 [(0, .ref (q 10)), (1, .long a0), (3, .int a1)] := hl
  refine lv_aload_n X.x X.b (dk DX11_meets_0 0 rfl) rfl (lv_at hl 0 rfl) ?_
  refine lv_iload_n X.x X.b (dk DX11_meets_0 1 rfl) rfl (lv_at hl 2 rfl) ?_
  obtain ⟨x1, e2, hF⟩ := bd hF
  refine mr_xv hH (mr_xrunV (As := [.int a1]) (rest := []) X hH (c_X11_needLine hst hq hq_n ha lk_n e2) ((oset_at hq (Nat.le_refl _) ohas_N).trans (congrArg some ocell_N)) OX11.1 kM_X11_110 kI_X11_needLine kS_X11_needLine kN_X11 kC_X11_needLine hd_X11_needLine ⟨Nat.le_of_ble_eq_true rfl, Nat.le_of_ble_eq_true rfl⟩ rfl hl.1 (Nat.le_of_ble_eq_true rfl) (dk DX11_meets_0 2 rfl) ⟨Nat.le_of_ble_eq_true rfl, Nat.le_of_ble_eq_true rfl⟩) (fun E h1 q9 H locs hp hH hth => ?_) (fun h1 H locs hp hH => ?_)
  · obtain ⟨k9, hk9, hE, hh9⟩ := hp
    subst hk9
    rw [hh9] at hH
    cases sm hF
    exact mr_xout hno hlk hH hth ⟨_, rfl, hE, rfl⟩ (Nat.le_of_ble_eq_true rfl) (Nat.le_of_ble_eq_true rfl)
  · obtain ⟨y3, hy9, hr2⟩ := hp
    subst hy9
    rw [hr2] at hH; clear hr2
    try dsimp only at hF
    refine lv_aload_n X.x X.b (dk DX11_meets_0 3 rfl) rfl (lv_at hl 0 rfl) ?_
    refine lv_lload_n X.x X.b (dk DX11_meets_0 4 rfl) rfl (lv_at hl 1 rfl) ?_
    obtain ⟨x4, e5, hF⟩ := bd hF
    refine mr_xv hH (mr_xrunV (As := [.long a0]) (rest := []) X hH (c_X11_needPoints hst hq hq_n ha lk_n e5) ((oset_at hq (Nat.le_refl _) ohas_N).trans (congrArg some ocell_N)) OX11.1 kM_X11_130 kI_X11_needPoints kS_X11_needPoints kN_X11 kC_X11_needPoints hd_X11_needPoints ⟨Nat.le_of_ble_eq_true rfl, Nat.le_of_ble_eq_true rfl⟩ rfl hl.1 (Nat.le_of_ble_eq_true rfl) (dk DX11_meets_0 5 rfl) ⟨Nat.le_of_ble_eq_true rfl, Nat.le_of_ble_eq_true rfl⟩) (fun E h1 q9 H locs hp hH hth => ?_) (fun h1 H locs hp hH => ?_)
    · obtain ⟨k9, hk9, hE, hh9⟩ := hp
      subst hk9
      rw [hh9] at hH
      cases sm hF
      exact mr_xout hno hlk hH hth ⟨_, rfl, hE, rfl⟩ (Nat.le_of_ble_eq_true rfl) (Nat.le_of_ble_eq_true rfl)
    · obtain ⟨y6, hy9, hr2⟩ := hp
      subst hy9
      rw [hr2] at hH; clear hr2
      try dsimp only at hF
      refine lv_aload_n X.x X.b (dk DX11_meets_0 6 rfl) rfl (lv_at hl 0 rfl) ?_
      refine og_getR (t := 4) OX11 X hq hH 1 (by decide) rfl kF_X11_19 (dk DX11_meets_0 7 rfl) ?_
      rw [lk_n]
      refine lv_iload_n X.x X.b (dk DX11_meets_0 8 rfl) rfl (lv_at hl 2 rfl) ?_
      obtain ⟨x7, e8, hF⟩ := bd hF
      refine mr_cl0 (mH_perm (l1 := [(LX11, q, st), (LX10, q_n, st_n)]) (l2 := [(LX10, q_n, st_n), (LX11, q, st)]) ha [1, 0] [1, 0] rfl rfl rfl hH) ⟨rfl, rfl⟩ (mr_runV (As := [.int a1]) (rest := []) X (mH_perm (l1 := [(LX11, q, st), (LX10, q_n, st_n)]) (l2 := [(LX10, q_n, st_n), (LX11, q, st)]) ha [1, 0] [1, 0] rfl rfl rfl hH) (c_X10_setAt hq_n e8) ((oset_at hq_n (Nat.le_refl _) ohas_N).trans (congrArg some ocell_N)) OX10.1 kM_X11_113 kI_X10_setAt kS_X10_setAt kN_X10 kC_X10_setAt hd_X10_setAt ⟨Nat.le_of_ble_eq_true rfl, Nat.le_of_ble_eq_true rfl⟩ rfl hl.1 (Nat.le_of_ble_eq_true rfl) (dk DX11_meets_0 9 rfl) ⟨Nat.le_of_ble_eq_true rfl, Nat.le_of_ble_eq_true rfl⟩) (fun r h1 H locs hp hH => ?_)
      obtain ⟨hr1, hr2⟩ := hp; rw [hr1]; rw [hr2] at hH; clear hr1 hr2
      replace hH : mH G (oset LX11 G q st (oset LX10 G q_n st_n h)) s.heap H locs := mH_unperm (l1 := [(LX11, q, st), (LX10, q_n, st_n)]) (l2 := [(LX10, q_n, st_n), (LX11, q, st)]) ha [1, 0] [1, 0] rfl rfl rfl hH
      refine lv_lload_n X.x X.b (dk DX11_meets_0 10 rfl) rfl (lv_at hl 1 rfl) ?_
      refine lv_land X.x X.b (dk DX11_meets_0 11 rfl) ?_
      obtain ⟨x10, e11, hF⟩ := bd hF
      refine mr_ci0 hH ⟨rfl, rfl⟩ (mr_runS (As := [.long (x7 &&& a0)]) (rest := []) X hH (c_J13_bitCount_95d88 e11) kM_X11_145 kT_J13_bitCount_95d88 kN_J13 kC_J13_bitCount_95d88 hd_J13_bitCount_95d88 ⟨Nat.le_of_ble_eq_true rfl, Nat.le_of_ble_eq_true rfl⟩ rfl hl.1 (Nat.le_of_ble_eq_true rfl) (dk DX11_meets_0 12 rfl) ⟨Nat.le_of_ble_eq_true rfl, Nat.le_of_ble_eq_true rfl⟩) (fun r h1 H locs hp hH => ?_)
      obtain ⟨hr1, hr2⟩ := hp; rw [hr1]; rw [hr2] at hH; clear hr1 hr2
      cases sm hF
      exact vx_ret (W.widen (k := (rm_X11_meets).cells) (n := (rm_X11_meets).slots) (Nat.le_of_ble_eq_true rfl) (Nat.le_of_ble_eq_true rfl) (mr_iret X hr hlk hH ⟨_, rfl, rfl, rfl⟩ (dk DX11_meets_0 13 rfl)))
-- X11_even
abbrev rm_X11_even : Room := { frames := 7, cells := 1, slots := 6, locals := 112 }
theorem hd_X11_even : mHd yX11_even 1 := ⟨by decide +kernel, by decide +kernel, by decide +kernel⟩
theorem DX11_even_0 : ∀ t ∈ ([(0, .aload_n 0, 1), (1, .lload_n 1, 1), (2, .invokevirtual 130, 3), (5, .aload_n 0, 1), (6, .getfield 19, 3), (9, .lload_n 1, 1), (10, .invokestatic 171, 3), (13, .ireturn, 1)] : List (Nat × Instr × Nat)), decode cX11_even t.1 = .ok (t.2.1, t.2.2) := by decide +kernel
noncomputable def f_X11_even (st : OS) (st_n : OS) (a0 : Int64) : Option (Nat ⊕ (Int32)) := (f_X11_needPoints st st_n a0).bind (fun x1 => match x1 with | .inl k9 => some (.inl k9) | .inr y3 => (f_X6_evenBy st_n a0).bind (fun x4 => some (.inr x4)))
set_option maxHeartbeats 4000000 in
set_option maxRecDepth 100000 in
theorem c_X11_even {l : Launch} (hst : l.stackTraces = false) {G : mG} {h : mM} {q : Nat → Nat} {q_n : Nat → Nat} (hq : oinj LX11 q) (hq_n : oinj LX10 q_n) (ha : oap [(LX11, q), (LX10, q_n)]) (lk_n : q 1 = q_n 5) {st : OS} {st_n : OS} {a0 : Int64} {x : Nat ⊕ (Int32)} (hF : f_X11_even st st_n a0 = some x) : xQ l G yX11_even cX11_even 3 (some FieldType.int) rm_X11_even [.ref (q 10), .long a0] (oset LX11 G q st (oset LX10 G q_n st_n h)) (mQi G (fun r h1 => ∃ y, x = .inr y ∧ r = y ∧ h1 = oset LX11 G q st (oset LX10 G q_n st_n h))) (fun E h1 => ∃ k, x = .inl k ∧ E = exN k ∧ h1 = oset LX11 G q st (oset LX10 G q_n st_n h)) := by
  refine xp_of (by decide +kernel) (Nat.le_of_ble_eq_true rfl) ?_
  intro p e s m below meth c X hr hlk hno hH ls hl
  dsimp only [f_X11_even] at hF
  replace hl : lv_has ls 3 [(0, .ref (q 10)), (1, .long a0)] := hl
  refine lv_aload_n X.x X.b (dk DX11_even_0 0 rfl) rfl (lv_at hl 0 rfl) ?_
  refine lv_lload_n X.x X.b (dk DX11_even_0 1 rfl) rfl (lv_at hl 1 rfl) ?_
  obtain ⟨x1, e2, hF⟩ := bd hF
  refine mr_xv hH (mr_xrunV (As := [.long a0]) (rest := []) X hH (c_X11_needPoints hst hq hq_n ha lk_n e2) ((oset_at hq (Nat.le_refl _) ohas_N).trans (congrArg some ocell_N)) OX11.1 kM_X11_130 kI_X11_needPoints kS_X11_needPoints kN_X11 kC_X11_needPoints hd_X11_needPoints ⟨Nat.le_of_ble_eq_true rfl, Nat.le_of_ble_eq_true rfl⟩ rfl hl.1 (Nat.le_of_ble_eq_true rfl) (dk DX11_even_0 2 rfl) ⟨Nat.le_of_ble_eq_true rfl, Nat.le_of_ble_eq_true rfl⟩) (fun E h1 q9 H locs hp hH hth => ?_) (fun h1 H locs hp hH => ?_)
  · obtain ⟨k9, hk9, hE, hh9⟩ := hp
    subst hk9
    rw [hh9] at hH
    cases sm hF
    exact mr_xout hno hlk hH hth ⟨_, rfl, hE, rfl⟩ (Nat.le_of_ble_eq_true rfl) (Nat.le_of_ble_eq_true rfl)
  · obtain ⟨y3, hy9, hr2⟩ := hp
    subst hy9
    rw [hr2] at hH; clear hr2
    try dsimp only at hF
    refine lv_aload_n X.x X.b (dk DX11_even_0 3 rfl) rfl (lv_at hl 0 rfl) ?_
    refine og_getR (t := 4) OX11 X hq hH 1 (by decide) rfl kF_X11_19 (dk DX11_even_0 4 rfl) ?_
    rw [lk_n]
    refine lv_lload_n X.x X.b (dk DX11_even_0 5 rfl) rfl (lv_at hl 1 rfl) ?_
    obtain ⟨x4, e5, hF⟩ := bd hF
    refine mr_ci0 (mH_perm (l1 := [(LX11, q, st), (LX10, q_n, st_n)]) (l2 := [(LX10, q_n, st_n), (LX11, q, st)]) ha [1, 0] [1, 0] rfl rfl rfl hH) ⟨rfl, rfl⟩ (mr_runS (As := [.ref (q_n 5), .long a0]) (rest := []) X (mH_perm (l1 := [(LX11, q, st), (LX10, q_n, st_n)]) (l2 := [(LX10, q_n, st_n), (LX11, q, st)]) ha [1, 0] [1, 0] rfl rfl rfl hH) (c_X6_evenBy hq_n e5) kM_X11_171 kT_X6_evenBy kN_X6 kC_X6_evenBy hd_X6_evenBy ⟨Nat.le_of_ble_eq_true rfl, Nat.le_of_ble_eq_true rfl⟩ rfl hl.1 (Nat.le_of_ble_eq_true rfl) (dk DX11_even_0 6 rfl) ⟨Nat.le_of_ble_eq_true rfl, Nat.le_of_ble_eq_true rfl⟩) (fun r h1 H locs hp hH => ?_)
    obtain ⟨hr1, hr2⟩ := hp; rw [hr1]; rw [hr2] at hH; clear hr1 hr2
    replace hH : mH G (oset LX11 G q st (oset LX10 G q_n st_n h)) s.heap H locs := mH_unperm (l1 := [(LX11, q, st), (LX10, q_n, st_n)]) (l2 := [(LX10, q_n, st_n), (LX11, q, st)]) ha [1, 0] [1, 0] rfl rfl rfl hH
    cases sm hF
    exact vx_ret (W.widen (k := (rm_X11_even).cells) (n := (rm_X11_even).slots) (Nat.le_of_ble_eq_true rfl) (Nat.le_of_ble_eq_true rfl) (mr_iret X hr hlk hH ⟨_, rfl, rfl, rfl⟩ (dk DX11_even_0 7 rfl)))
-- X11_evens
abbrev rm_X11_evens : Room := { frames := 24, cells := 0, slots := 0, locals := 598 }
theorem hd_X11_evens : mHd yX11_evens 1 := ⟨by decide +kernel, by decide +kernel, by decide +kernel⟩
theorem DX11_evens_0 : ∀ t ∈ ([(0, .aload_n 0, 1), (1, .getfield 19, 3), (4, .iload_n 1, 1), (5, .invokestatic 177, 3), (8, .ireturn, 1)] : List (Nat × Instr × Nat)), decode cX11_evens t.1 = .ok (t.2.1, t.2.2) := by decide +kernel
noncomputable def f_X11_evens (st : OS) (st_n : OS) (a0 : Int32) : Option (Int32) := (f_X6_evenMany st_n a0).bind (fun x1 => some x1)
set_option maxHeartbeats 4000000 in
set_option maxRecDepth 100000 in
theorem c_X11_evens {l : Launch} {G : mG} {h : mM} {q : Nat → Nat} {q_n : Nat → Nat} (hq : oinj LX11 q) (hq_n : oinj LX10 q_n) (ha : oap [(LX11, q), (LX10, q_n)]) (lk_n : q 1 = q_n 5) {st : OS} {st_n : OS} {a0 : Int32} {x : Int32} (hF : f_X11_evens st st_n a0 = some x) : cQ l G yX11_evens cX11_evens 2 (some FieldType.int) rm_X11_evens [.ref (q 10), .int a0] (oset LX11 G q st (oset LX10 G q_n st_n h)) (mQi G (fun r h1 => r = x ∧ h1 = oset LX11 G q st (oset LX10 G q_n st_n h))) := by
  refine mp_of (by decide +kernel) (Nat.le_of_ble_eq_true rfl) ?_
  intro p e s m below meth c X hr hlk hH hname ls hl
  dsimp only [f_X11_evens] at hF
  replace hl : lv_has ls 2 [(0, .ref (q 10)), (1, .int a0)] := hl
  refine lv_aload_n X.x X.b (dk DX11_evens_0 0 rfl) rfl (lv_at hl 0 rfl) ?_
  refine og_getR (t := 4) OX11 X hq hH 1 (by decide) rfl kF_X11_19 (dk DX11_evens_0 1 rfl) ?_
  rw [lk_n]
  refine lv_iload_n X.x X.b (dk DX11_evens_0 2 rfl) rfl (lv_at hl 1 rfl) ?_
  obtain ⟨x1, e2, hF⟩ := bd hF
  refine mr_ci0 (mH_perm (l1 := [(LX11, q, st), (LX10, q_n, st_n)]) (l2 := [(LX10, q_n, st_n), (LX11, q, st)]) ha [1, 0] [1, 0] rfl rfl rfl hH) ⟨rfl, rfl⟩ (mr_runS (As := [.ref (q_n 5), .int a0]) (rest := []) X (mH_perm (l1 := [(LX11, q, st), (LX10, q_n, st_n)]) (l2 := [(LX10, q_n, st_n), (LX11, q, st)]) ha [1, 0] [1, 0] rfl rfl rfl hH) (c_X6_evenMany hq_n e2) kM_X11_177 kT_X6_evenMany kN_X6 kC_X6_evenMany hd_X6_evenMany ⟨Nat.le_of_ble_eq_true rfl, Nat.le_of_ble_eq_true rfl⟩ rfl hl.1 (Nat.le_of_ble_eq_true rfl) (dk DX11_evens_0 3 rfl) ⟨Nat.zero_le _, Nat.zero_le _⟩) (fun r h1 H locs hp hH => ?_)
  obtain ⟨hr1, hr2⟩ := hp; rw [hr1]; rw [hr2] at hH; clear hr1 hr2
  replace hH : mH G (oset LX11 G q st (oset LX10 G q_n st_n h)) s.heap H locs := mH_unperm (l1 := [(LX11, q, st), (LX10, q_n, st_n)]) (l2 := [(LX10, q_n, st_n), (LX11, q, st)]) ha [1, 0] [1, 0] rfl rfl rfl hH
  cases sm hF
  exact mr_iret X hr hlk hH ⟨rfl, rfl⟩ (dk DX11_evens_0 4 rfl)
