theorem needPoints_11 (stt : OS) {stn : OS} {n : Nat} {l : List Int64} (h : PL stn n l) (s : Int64) : f_X11_needPoints stt stn s = some (if s &&& (fst64 n ^^^ (-1)) = 0 then .inr () else .inl 1) := by
  unfold f_X11_needPoints
  rw [all_10 h, ob_s]
  simp only [lg_cmp_eq]
  split <;> rfl
theorem needLine_11 (stt : OS) {stn : OS} {n : Nat} {l : List Int64} (h : PL stn n l) (i : Int32) : f_X11_needLine stt stn i = some (if i < 0 ∨ nI l.length ≤ i then .inl 0 else .inr ()) := by
  unfold f_X11_needLine f_X10_hasLine
  rw [h.2.1]
  by_cases h1 : i < 0
  · rw [if_pos h1, if_pos (Or.inl h1)]; rfl
  · rw [if_neg h1]
    by_cases h2 : nI l.length ≤ i
    · rw [if_pos h2, if_pos (Or.inr h2)]; rfl
    · rw [if_neg h2, if_neg (fun z => z.elim h1 h2)]; rfl
theorem needPoint_11 (stt : OS) {stn : OS} {n : Nat} {l : List Int64} (h : PL stn n l) (i : Int32) : f_X11_needPoint stt stn i = some (if i < 0 ∨ nI n ≤ i then .inl 0 else .inr ()) := by
  unfold f_X11_needPoint f_X10_hasPoint
  rw [h.1]
  by_cases h1 : i < 0
  · rw [if_pos h1, if_pos (Or.inl h1)]; rfl
  · rw [if_neg h1]
    by_cases h2 : nI n ≤ i
    · rw [if_pos h2, if_pos (Or.inr h2)]; rfl
    · rw [if_neg h2, if_neg (fun z => z.elim h1 h2)]; rfl
theorem hd_X11_add : mHd yX11_add 1 := ⟨by decide +kernel, by decide +kernel, by decide +kernel⟩
theorem DX11_add_0 : ∀ t ∈ ([(0, .aload_n 0, 1), (1, .lload_n 1, 1), (2, .invokevirtual 130, 3), (5, .lload_n 1, 1), (6, .invokestatic 145, 3), (9, .iconst 2, 1), (10, .if_icmp .ge 14, 3), (13, .new 83, 3), (16, .dup, 1), (17, .ldc_w 258, 3), (20, .invokespecial 87, 3), (23, .athrow, 1), (24, .aload_n 0, 1), (25, .lload_n 1, 1), (26, .invokevirtual 260, 3), (29, .ifCond .eq 15, 3), (32, .aload_n 0, 1), (33, .getfield 19, 3), (36, .getfield 104, 3), (39, .iconst 1, 1), (40, .isub, 1), (41, .goto 4, 3), (44, .iconst (-1), 1), (45, .ireturn, 1)] : List (Nat × Instr × Nat)), decode cX11_add t.1 = .ok (t.2.1, t.2.2) := by decide +kernel
theorem hd_X11_drop : mHd yX11_drop 1 := ⟨by decide +kernel, by decide +kernel, by decide +kernel⟩
theorem DX11_drop_0 : ∀ t ∈ ([(0, .aload_n 0, 1), (1, .iload_n 1, 1), (2, .invokevirtual 110, 3), (5, .aload_n 0, 1), (6, .iload_n 1, 1), (7, .invokevirtual 264, 3), (10, .lreturn, 1)] : List (Nat × Instr × Nat)), decode cX11_drop t.1 = .ok (t.2.1, t.2.2) := by decide +kernel
theorem hd_X11_dual : mHd yX11_dual 0 := ⟨by decide +kernel, by decide +kernel, by decide +kernel⟩
theorem DX11_dual_0 : ∀ t ∈ ([(0, .aload_n 0, 1), (1, .invokevirtual 267, 3), (4, .aload_n 0, 1), (5, .getfield 19, 3), (8, .getfield 239, 3), (11, .ireturn, 1)] : List (Nat × Instr × Nat)), decode cX11_dual t.1 = .ok (t.2.1, t.2.2) := by decide +kernel
theorem hd_X11_left : mHd yX11_left 1 := ⟨by decide +kernel, by decide +kernel, by decide +kernel⟩
theorem DX11_left_0 : ∀ t ∈ ([(0, .aload_n 0, 1), (1, .iload_n 1, 1), (2, .invokevirtual 117, 3), (5, .aload_n 0, 1), (6, .iload_n 1, 1), (7, .invokevirtual 270, 3), (10, .aload_n 0, 1), (11, .getfield 19, 3), (14, .getfield 239, 3), (17, .ireturn, 1)] : List (Nat × Instr × Nat)), decode cX11_left t.1 = .ok (t.2.1, t.2.2) := by decide +kernel
abbrev rm_X11_add : Room := { frames := 8, cells := 10, slots := 300, locals := 200 }
set_option maxHeartbeats 4000000 in
set_option maxRecDepth 100000 in
theorem c_X11_add {l : Launch} (hst : l.stackTraces = false) {G : mG} {qt qn qd qh : Nat → Nat} {ow : Nat → Nat} {m : mM} {w : Wd} {bw aw : List Wd} {S : Nat → Prop} (hC : Core G qt qn qd qh ow m w bw aw S) {set : Int64} : xQ l G yX11_add cX11_add 3 (some FieldType.int) rm_X11_add [.ref (qt 10), .long set] m (mQi G (fun r m' => set &&& (fst64 w.1 ^^^ (-1)) = 0 ∧ 2 ≤ pcn set ∧ ((w.2.length = 64 ∧ r = -1 ∧ m' = m) ∨ (w.2.length < 64 ∧ r = nI w.2.length ∧ CoreP G qt qn qd qh ow m S m' (w.1, w.2 ++ [set]) (pushW bw w) [])))) (fun E m' => E = exN 1 ∧ (¬ (set &&& (fst64 w.1 ^^^ (-1)) = 0) ∨ pcn set < 2) ∧ m' = m) := by
  refine xp_of (by decide +kernel) (Nat.le_of_ble_eq_true rfl) ?_
  intro p e s m9 below meth c X hr hlk hno hH ls hl
  replace hl : lv_has ls 3 [(0, .ref (qt 10)), (1, .long set)] := hl
  obtain ⟨stt, stn, std, fb, fa, bs, as, hT, hn, hw, hd, hS, hb, ha, hx, hk, hSS⟩ := id hC
  refine lv_aload_n X.x X.b (dk DX11_add_0 0 rfl) rfl (lv_at hl 0 rfl) ?_
  refine lv_lload_n X.x X.b (dk DX11_add_0 1 rfl) rfl (lv_at hl 1 rfl) ?_
  refine mr_xv hH (mr_xrunV (As := [.long set]) (rest := []) X hH (xt2 hT hn (c_X11_needPoints hst hT.1 hn.1 (oap2 (hT.dis hn (hT.ne hn (by decide)))) hk.1 (needPoints_11 stt hw.1 set))) hT.root OX11.1 kM_X11_130 kI_X11_needPoints kS_X11_needPoints kN_X11 kC_X11_needPoints hd_X11_needPoints ⟨Nat.le_of_ble_eq_true rfl, Nat.le_of_ble_eq_true rfl⟩ rfl hl.1 (Nat.le_of_ble_eq_true rfl) (dk DX11_add_0 2 rfl) ⟨Nat.le_of_ble_eq_true rfl, Nat.le_of_ble_eq_true rfl⟩) (fun E h1 q9 H locs hp hH hth => ?_) (fun h1 H locs hp hH => ?_)
  · obtain ⟨k9, hk9, hE, hh9⟩ := hp
    rw [hn.eq, hT.eq] at hh9
    rw [hh9] at hH
    refine mr_xout hno hlk hH hth (px := _) ⟨?_, ?_, rfl⟩ (Nat.le_of_ble_eq_true rfl) (Nat.le_of_ble_eq_true rfl)
    · split at hk9 <;> cases hk9
      exact hE
    · exact Or.inl (fun z => by rw [if_pos z] at hk9; cases hk9)
  obtain ⟨y9, hy9, hh9⟩ := hp
  rw [hn.eq, hT.eq] at hh9
  rw [hh9] at hH
  have hok : set &&& (fst64 w.1 ^^^ (-1)) = 0 := by
    false_or_by_contra
    rename_i z
    rw [if_neg z] at hy9
    cases hy9
  refine lv_lload_n X.x X.b (dk DX11_add_0 3 rfl) rfl (lv_at hl 1 rfl) ?_
  refine mr_ci0 hH ⟨rfl, rfl⟩ (mr_runS (As := [.long set]) (rest := []) X hH (c_J13_bitCount_95d88 (bitCount_13 set)) kM_X11_145 kT_J13_bitCount_95d88 kN_J13 kC_J13_bitCount_95d88 hd_J13_bitCount_95d88 ⟨Nat.le_of_ble_eq_true rfl, Nat.le_of_ble_eq_true rfl⟩ rfl hl.1 (Nat.le_of_ble_eq_true rfl) (dk DX11_add_0 4 rfl) ⟨Nat.le_of_ble_eq_true rfl, Nat.le_of_ble_eq_true rfl⟩) (fun r h1 H locs hp hH => ?_)
  obtain ⟨hr1, hp⟩ := hp
  rw [hr1]
  rw [hp] at hH
  refine lv_iconst (v := 2) X.x X.b (dk DX11_add_0 5 rfl) (by decide) ?_
  refine lv_icmp_ge (tgt := 24) X.x X.b (dk DX11_add_0 6 rfl) (by decide) (fun c => ?_) (fun c => ?_)
  · have h2 : 2 ≤ pcn set := by
      rcases Nat.lt_or_ge (pcn set) 2 with z | z
      · exact absurd c (nI_ge (a := pcn set) (b := 2) z (by decide))
      · exact z
    refine lv_aload_n X.x X.b (dk DX11_add_0 12 rfl) rfl (lv_at hl 0 rfl) ?_
    refine lv_lload_n X.x X.b (dk DX11_add_0 13 rfl) rfl (lv_at hl 1 rfl) ?_
    refine mr_ci hH (mr_runV (As := [.long set]) (rest := []) X hH (core_addLine hC set) hT.root OX11.1 kM_X11_260 kI_X11_addLine kS_X11_addLine kN_X11 kC_X11_addLine hd_X11_addLine ⟨Nat.le_of_ble_eq_true rfl, Nat.le_of_ble_eq_true rfl⟩ rfl hl.1 (Nat.le_of_ble_eq_true rfl) (dk DX11_add_0 14 rfl) ⟨Nat.le_of_ble_eq_true rfl, Nat.le_of_ble_eq_true rfl⟩) (fun r m1 H locs hp hH => ?_)
    rcases hp with ⟨h64, hr1, hm1⟩ | ⟨h64, hr1, hP⟩
    · rw [hr1]
      rw [hm1] at hH
      refine lv_if_eq (tgt := 44) X.x X.b (dk DX11_add_0 15 rfl) (by decide) (fun _ => ?_) (fun z => absurd (show (0 : Int32) = 0 from rfl) z)
      refine lv_iconst (v := (-1)) X.x X.b (dk DX11_add_0 22 rfl) (by decide) ?_
      exact vx_ret (W.widen (k := (rm_X11_add).cells) (n := (rm_X11_add).slots) (Nat.le_of_ble_eq_true rfl) (Nat.le_of_ble_eq_true rfl) (mr_iret X hr hlk hH ⟨hok, h2, Or.inl ⟨h64, rfl, rfl⟩⟩ (dk DX11_add_0 23 rfl)))
    · rw [hr1]
      refine lv_if_eq (tgt := 44) X.x X.b (dk DX11_add_0 15 rfl) (by decide) (fun z => absurd z (show ¬ (1 : Int32) = 0 by decide)) (fun _ => ?_)
      obtain ⟨ow1, S1, ⟨stt1, stn1, std1, fb1, fa1, bs1, as1, hT1, hn1, hw1, -⟩, -⟩ := id hP
      skip
      refine lv_aload_n X.x X.b (dk DX11_add_0 16 rfl) rfl (lv_at hl 0 rfl) ?_
      refine ag_getR (t := 4) OX11 X hT1 hH 1 (by decide) rfl kF_X11_19 (dk DX11_add_0 17 rfl) ?_
      rw [hk.1]
      refine ag_getIN OX10 X hn1 hH 1 (by decide) rfl kFN_X11_104 (dk DX11_add_0 18 rfl) ?_
      rw [hw1.1.2.1]
      refine lv_iconst (v := 1) X.x X.b (dk DX11_add_0 19 rfl) (by decide) ?_
      refine lv_isub X.x X.b (dk DX11_add_0 20 rfl) ?_
      refine lv_goto (tgt := 45) X.x X.b (dk DX11_add_0 21 rfl) (by decide) ?_
      have e9 : nI (w.2 ++ [set]).length - 1 = nI w.2.length := by rw [List.length_append]; exact nI_pred _
      rw [e9]
      exact vx_ret (W.widen (k := (rm_X11_add).cells) (n := (rm_X11_add).slots) (Nat.le_of_ble_eq_true rfl) (Nat.le_of_ble_eq_true rfl) (mr_iret X hr hlk hH ⟨hok, h2, Or.inr ⟨h64, rfl, hP⟩⟩ (dk DX11_add_0 23 rfl)))
  · have h2 : pcn set < 2 := by
      rcases Nat.lt_or_ge (pcn set) 2 with z | z
      · exact z
      · exact absurd (nI_le (a := 2) (b := pcn set) z (by have := pcn_le set; omega)) c
    exact mr_throwSW X hno hlk hl.1 hst hH 1 16 (by decide +kernel) (by decide +kernel) (by decide +kernel) exT_X11_87 kL_X11_83 kN_ex1 (dk DX11_add_0 7 rfl) (dk DX11_add_0 8 rfl) (dk DX11_add_0 9 rfl) (dk DX11_add_0 10 rfl) (dk DX11_add_0 11 rfl) ⟨Nat.le_of_ble_eq_true rfl, Nat.le_of_ble_eq_true rfl, Nat.le_of_ble_eq_true rfl, Nat.le_of_ble_eq_true rfl⟩ (Nat.le_of_ble_eq_true rfl) (Nat.le_of_ble_eq_true rfl) ⟨rfl, Or.inr h2, rfl⟩
abbrev rm_X11_drop : Room := { frames := 8, cells := 10, slots := 300, locals := 200 }
set_option maxHeartbeats 4000000 in
set_option maxRecDepth 100000 in
theorem c_X11_drop {l : Launch} (hst : l.stackTraces = false) {G : mG} {qt qn qd qh : Nat → Nat} {ow : Nat → Nat} {m : mM} {w : Wd} {bw aw : List Wd} {S : Nat → Prop} (hC : Core G qt qn qd qh ow m w bw aw S) {i : Int32} : xQ l G yX11_drop cX11_drop 2 (some FieldType.long) rm_X11_drop [.ref (qt 10), .int i] m (mQl G (fun r m' => ∃ j, i = nI j ∧ j < w.2.length ∧ r = wl w.2 j ∧ CoreP G qt qn qd qh ow m S m' (w.1, w.2.eraseIdx j) (pushW bw w) [])) (fun E m' => E = exN 0 ∧ (i < 0 ∨ nI w.2.length ≤ i) ∧ m' = m) := by
  refine xp_of (by decide +kernel) (Nat.le_of_ble_eq_true rfl) ?_
  intro p e s m9 below meth c X hr hlk hno hH ls hl
  replace hl : lv_has ls 2 [(0, .ref (qt 10)), (1, .int i)] := hl
  obtain ⟨stt, stn, std, fb, fa, bs, as, hT, hn, hw, hd, hS, hb, ha, hx, hk, hSS⟩ := id hC
  refine lv_aload_n X.x X.b (dk DX11_drop_0 0 rfl) rfl (lv_at hl 0 rfl) ?_
  refine lv_iload_n X.x X.b (dk DX11_drop_0 1 rfl) rfl (lv_at hl 1 rfl) ?_
  refine mr_xv hH (mr_xrunV (As := [.int i]) (rest := []) X hH (xt2 hT hn (c_X11_needLine hst hT.1 hn.1 (oap2 (hT.dis hn (hT.ne hn (by decide)))) hk.1 (needLine_11 stt hw.1 i))) hT.root OX11.1 kM_X11_110 kI_X11_needLine kS_X11_needLine kN_X11 kC_X11_needLine hd_X11_needLine ⟨Nat.le_of_ble_eq_true rfl, Nat.le_of_ble_eq_true rfl⟩ rfl hl.1 (Nat.le_of_ble_eq_true rfl) (dk DX11_drop_0 2 rfl) ⟨Nat.le_of_ble_eq_true rfl, Nat.le_of_ble_eq_true rfl⟩) (fun E h1 q9 H locs hp hH hth => ?_) (fun h1 H locs hp hH => ?_)
  · obtain ⟨k9, hk9, hE, hh9⟩ := hp
    rw [hn.eq, hT.eq] at hh9
    rw [hh9] at hH
    refine mr_xout hno hlk hH hth (px := _) ⟨?_, ?_, rfl⟩ (Nat.le_of_ble_eq_true rfl) (Nat.le_of_ble_eq_true rfl)
    · split at hk9 <;> cases hk9
      exact hE
    · false_or_by_contra
      rename_i z
      rw [if_neg z] at hk9
      cases hk9
  obtain ⟨y9, hy9, hh9⟩ := hp
  rw [hn.eq, hT.eq] at hh9
  rw [hh9] at hH
  have hi0 : ¬ (i < 0 ∨ nI w.2.length ≤ i) := fun z => by rw [if_pos z] at hy9; cases hy9
  obtain ⟨j, hj, hij⟩ : ∃ j, j < w.2.length ∧ i = nI j := by
    obtain ⟨j, hj, hij⟩ := nI_of (fun z => hi0 (Or.inl z))
    refine ⟨j, ?_, hij⟩
    rcases Nat.lt_or_ge j w.2.length with z | z
    · exact z
    · exact absurd (Or.inr (by rw [hij]; exact nI_le z hj)) hi0
  subst hij
  refine lv_aload_n X.x X.b (dk DX11_drop_0 3 rfl) rfl (lv_at hl 0 rfl) ?_
  refine lv_iload_n X.x X.b (dk DX11_drop_0 4 rfl) rfl (lv_at hl 1 rfl) ?_
  refine mr_cl hH (mr_runV (As := [.int (nI j)]) (rest := []) X hH (core_dropLine hC hj) hT.root OX11.1 kM_X11_264 kI_X11_dropLine kS_X11_dropLine kN_X11 kC_X11_dropLine hd_X11_dropLine ⟨Nat.le_of_ble_eq_true rfl, Nat.le_of_ble_eq_true rfl⟩ rfl hl.1 (Nat.le_of_ble_eq_true rfl) (dk DX11_drop_0 5 rfl) ⟨Nat.le_of_ble_eq_true rfl, Nat.le_of_ble_eq_true rfl⟩) (fun r m1 H locs hp hH => ?_)
  exact vx_ret (W.widen (k := (rm_X11_drop).cells) (n := (rm_X11_drop).slots) (Nat.le_of_ble_eq_true rfl) (Nat.le_of_ble_eq_true rfl) (mr_lret X hr hlk hH ⟨j, rfl, hj, hp.1, hp.2⟩ (dk DX11_drop_0 6 rfl)))
abbrev rm_X11_dual : Room := { frames := 8, cells := 10, slots := 300, locals := 200 }
set_option maxHeartbeats 4000000 in
set_option maxRecDepth 100000 in
theorem c_X11_dual {l : Launch} {G : mG} {qt qn qd qh : Nat → Nat} {ow : Nat → Nat} {m : mM} {w : Wd} {bw aw : List Wd} {S : Nat → Prop} (hC : Core G qt qn qd qh ow m w bw aw S) : cQ l G yX11_dual cX11_dual 1 (some FieldType.int) rm_X11_dual [.ref (qt 10)] m (mQi G (fun r m' => r = nI (dualW w).1 ∧ CoreP G qt qn qd qh ow m S m' (dualW w) (pushW bw w) [])) := by
  refine mp_of (by decide +kernel) (Nat.le_of_ble_eq_true rfl) ?_
  intro p e s m9 below meth c X hr hlk hH hname ls hl
  replace hl : lv_has ls 1 [(0, .ref (qt 10))] := hl
  obtain ⟨stt, stn, std, fb, fa, bs, as, hT, hn, hw, hd, hS, hb, ha, hx, hk, hSS⟩ := id hC
  refine lv_aload_n X.x X.b (dk DX11_dual_0 0 rfl) rfl (lv_at hl 0 rfl) ?_
  refine mr_cv hH (mr_runV (As := []) (rest := []) X hH (core_dual hC) hT.root OX11.1 kM_X11_267 kI_X11_turnDual kS_X11_turnDual kN_X11 kC_X11_turnDual hd_X11_turnDual ⟨Nat.le_of_ble_eq_true rfl, Nat.le_of_ble_eq_true rfl⟩ rfl hl.1 (Nat.le_of_ble_eq_true rfl) (dk DX11_dual_0 1 rfl) ⟨Nat.le_of_ble_eq_true rfl, Nat.le_of_ble_eq_true rfl⟩) (fun m1 H locs hP hH => ?_)
  obtain ⟨ow1, S1, ⟨stt1, stn1, std1, fb1, fa1, bs1, as1, hT1, hn1, hw1, -⟩, -⟩ := id hP
  refine lv_aload_n X.x X.b (dk DX11_dual_0 2 rfl) rfl (lv_at hl 0 rfl) ?_
  refine ag_getR (t := 4) OX11 X hT1 hH 1 (by decide) rfl kF_X11_19 (dk DX11_dual_0 3 rfl) ?_
  rw [hk.1]
  refine ag_getIN OX10 X hn1 hH 0 (by decide) rfl kFN_X11_239 (dk DX11_dual_0 4 rfl) ?_
  rw [hw1.1.1]
  exact W.widen (k := (rm_X11_dual).cells) (n := (rm_X11_dual).slots) (Nat.le_of_ble_eq_true rfl) (Nat.le_of_ble_eq_true rfl) (mr_iret X hr hlk hH ⟨rfl, hP⟩ (dk DX11_dual_0 5 rfl))
abbrev rm_X11_left : Room := { frames := 8, cells := 10, slots := 300, locals := 200 }
set_option maxHeartbeats 4000000 in
set_option maxRecDepth 100000 in
theorem c_X11_left {l : Launch} (hst : l.stackTraces = false) {G : mG} {qt qn qd qh : Nat → Nat} {ow : Nat → Nat} {m : mM} {w : Wd} {bw aw : List Wd} {S : Nat → Prop} (hC : Core G qt qn qd qh ow m w bw aw S) {i : Int32} : xQ l G yX11_left cX11_left 2 (some FieldType.int) rm_X11_left [.ref (qt 10), .int i] m (mQi G (fun r m' => ∃ j, i = nI j ∧ j < w.1 ∧ r = nI (leftW w j).1 ∧ CoreP G qt qn qd qh ow m S m' (leftW w j) (pushW bw w) [])) (fun E m' => E = exN 0 ∧ (i < 0 ∨ nI w.1 ≤ i) ∧ m' = m) := by
  refine xp_of (by decide +kernel) (Nat.le_of_ble_eq_true rfl) ?_
  intro p e s m9 below meth c X hr hlk hno hH ls hl
  replace hl : lv_has ls 2 [(0, .ref (qt 10)), (1, .int i)] := hl
  obtain ⟨stt, stn, std, fb, fa, bs, as, hT, hn, hw, hd, hS, hb, ha, hx, hk, hSS⟩ := id hC
  refine lv_aload_n X.x X.b (dk DX11_left_0 0 rfl) rfl (lv_at hl 0 rfl) ?_
  refine lv_iload_n X.x X.b (dk DX11_left_0 1 rfl) rfl (lv_at hl 1 rfl) ?_
  refine mr_xv hH (mr_xrunV (As := [.int i]) (rest := []) X hH (xt2 hT hn (c_X11_needPoint hst hT.1 hn.1 (oap2 (hT.dis hn (hT.ne hn (by decide)))) hk.1 (needPoint_11 stt hw.1 i))) hT.root OX11.1 kM_X11_117 kI_X11_needPoint kS_X11_needPoint kN_X11 kC_X11_needPoint hd_X11_needPoint ⟨Nat.le_of_ble_eq_true rfl, Nat.le_of_ble_eq_true rfl⟩ rfl hl.1 (Nat.le_of_ble_eq_true rfl) (dk DX11_left_0 2 rfl) ⟨Nat.le_of_ble_eq_true rfl, Nat.le_of_ble_eq_true rfl⟩) (fun E h1 q9 H locs hp hH hth => ?_) (fun h1 H locs hp hH => ?_)
  · obtain ⟨k9, hk9, hE, hh9⟩ := hp
    rw [hn.eq, hT.eq] at hh9
    rw [hh9] at hH
    refine mr_xout hno hlk hH hth (px := _) ⟨?_, ?_, rfl⟩ (Nat.le_of_ble_eq_true rfl) (Nat.le_of_ble_eq_true rfl)
    · split at hk9 <;> cases hk9
      exact hE
    · false_or_by_contra
      rename_i z
      rw [if_neg z] at hk9
      cases hk9
  obtain ⟨y9, hy9, hh9⟩ := hp
  rw [hn.eq, hT.eq] at hh9
  rw [hh9] at hH
  have hi0 : ¬ (i < 0 ∨ nI w.1 ≤ i) := fun z => by rw [if_pos z] at hy9; cases hy9
  obtain ⟨j, hj, hij⟩ : ∃ j, j < w.1 ∧ i = nI j := by
    obtain ⟨j, hj, hij⟩ := nI_of (fun z => hi0 (Or.inl z))
    refine ⟨j, ?_, hij⟩
    rcases Nat.lt_or_ge j w.1 with z | z
    · exact z
    · exact absurd (Or.inr (by rw [hij]; exact nI_le z hj)) hi0
  subst hij
  refine lv_aload_n X.x X.b (dk DX11_left_0 3 rfl) rfl (lv_at hl 0 rfl) ?_
  refine lv_iload_n X.x X.b (dk DX11_left_0 4 rfl) rfl (lv_at hl 1 rfl) ?_
  refine mr_cv hH (mr_runV (As := [.int (nI j)]) (rest := []) X hH (core_left hC hj) hT.root OX11.1 kM_X11_270 kI_X11_keepLeft kS_X11_keepLeft kN_X11 kC_X11_keepLeft hd_X11_keepLeft ⟨Nat.le_of_ble_eq_true rfl, Nat.le_of_ble_eq_true rfl⟩ rfl hl.1 (Nat.le_of_ble_eq_true rfl) (dk DX11_left_0 5 rfl) ⟨Nat.le_of_ble_eq_true rfl, Nat.le_of_ble_eq_true rfl⟩) (fun m1 H locs hP hH => ?_)
  obtain ⟨ow1, S1, ⟨stt1, stn1, std1, fb1, fa1, bs1, as1, hT1, hn1, hw1, -⟩, -⟩ := id hP
  refine lv_aload_n X.x X.b (dk DX11_left_0 6 rfl) rfl (lv_at hl 0 rfl) ?_
  refine ag_getR (t := 4) OX11 X hT1 hH 1 (by decide) rfl kF_X11_19 (dk DX11_left_0 7 rfl) ?_
  rw [hk.1]
  refine ag_getIN OX10 X hn1 hH 0 (by decide) rfl kFN_X11_239 (dk DX11_left_0 8 rfl) ?_
  rw [hw1.1.1]
  exact vx_ret (W.widen (k := (rm_X11_left).cells) (n := (rm_X11_left).slots) (Nat.le_of_ble_eq_true rfl) (Nat.le_of_ble_eq_true rfl) (mr_iret X hr hlk hH ⟨j, rfl, hj, rfl, hP⟩ (dk DX11_left_0 9 rfl)))
