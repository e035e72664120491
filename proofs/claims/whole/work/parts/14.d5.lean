section AT3
variable {l : Launch} {G : mG} {ow ow1 ow2 : Nat → Nat} {y : MethodName} {cb : ByteArray} {mL : Nat} {ret : Option FieldType} {rm : Room} {av : List Value} {Qc : Array Value → State → Outcome → State → Prop} {m : mM} {L L1 L2 L3 : LY} {q q1 q2 q3 : Nat → Nat} {st s1 s2 s3 : OS}
theorem at1 (hA : At G ow m L q st) (h : cQ l G y cb mL ret rm av (oset L G q st m) Qc) : cQ l G y cb mL ret rm av m Qc := by rw [hA.eq] at h; exact h
theorem at2 (hA1 : At G ow m L1 q1 s1) (hA2 : At G ow m L2 q2 s2) (h : cQ l G y cb mL ret rm av (oset L1 G q1 s1 (oset L2 G q2 s2 m)) Qc) : cQ l G y cb mL ret rm av m Qc := by rw [hA2.eq, hA1.eq] at h; exact h
theorem at3 (hA1 : At G ow m L1 q1 s1) (hA2 : At G ow m L2 q2 s2) (hA3 : At G ow m L3 q3 s3) (h : cQ l G y cb mL ret rm av (oset L1 G q1 s1 (oset L2 G q2 s2 (oset L3 G q3 s3 m))) Qc) : cQ l G y cb mL ret rm av m Qc := by rw [hA3.eq, hA2.eq, hA1.eq] at h; exact h
theorem HR.neAt {fb fa : Nat → Option Nat} {bs as : List OS} {qh : Nat → Nat} (hS : Hst G ow m qh fb fa bs as) (hA : At G ow m L q st) (h10 : L.1 ≠ LX10.1) (h1 : L.1 ≠ LX1.1) : ¬ HR qh fb fa (q L.2.1) := by
  obtain ⟨⟨sth, hh, -, -⟩, hRb, hRa, -⟩ := hS
  intro z
  rcases z with z | z | z | ⟨i, z⟩ | ⟨i, z⟩
  · exact hA.ne hh h1 z
  · exact hA.neC hRb.1 z
  · exact hA.neC hRa.1 z
  · exact (hRb.2.1 _ _ z).neAt hA (fun w => h10 w.symm) rfl
  · exact (hRa.2.1 _ _ z).neAt hA (fun w => h10 w.symm) rfl
theorem HR.neW {fb fa : Nat → Option Nat} {bs as : List OS} {qh : Nat → Nat} (hS : Hst G ow m qh fb fa bs as) (hA : At G ow m LX10 q st) (hb : ∀ j, fb j ≠ some (q 5)) (ha : ∀ j, fa j ≠ some (q 5)) : ¬ HR qh fb fa (q 5) := by
  obtain ⟨⟨sth, hh, -, -⟩, hRb, hRa, -⟩ := hS
  intro z
  rcases z with z | z | z | ⟨i, z⟩ | ⟨i, z⟩
  · exact hA.ne hh (by decide) z
  · exact hA.neC hRb.1 z
  · exact hA.neC hRa.1 z
  · exact hb i z
  · exact ha i z
end AT3
theorem hd_X11_addLine : mHd yX11_addLine 1 := ⟨by decide +kernel, by decide +kernel, by decide +kernel⟩
theorem DX11_addLine_0 : ∀ t ∈ ([(0, .aload_n 0, 1), (1, .getfield 19, 3), (4, .getfield 104, 3), (7, .bipush 64, 2), (9, .if_icmp .lt 5, 3), (12, .iconst 0, 1), (13, .ireturn, 1), (14, .aload_n 0, 1), (15, .getfield 29, 3), (18, .aload_n 0, 1), (19, .getfield 19, 3), (22, .invokevirtual 350, 3), (25, .aload_n 0, 1), (26, .getfield 19, 3), (29, .lload_n 1, 1), (30, .invokevirtual 353, 3), (33, .aload_n 0, 1), (34, .getfield 19, 3), (37, .invokevirtual 356, 3), (40, .iconst 1, 1), (41, .ireturn, 1)] : List (Nat × Instr × Nat)), decode cX11_addLine t.1 = .ok (t.2.1, t.2.2) := by decide +kernel
theorem hd_X11_dropLine : mHd yX11_dropLine 1 := ⟨by decide +kernel, by decide +kernel, by decide +kernel⟩
theorem DX11_dropLine_0 : ∀ t ∈ ([(0, .aload_n 0, 1), (1, .getfield 19, 3), (4, .iload_n 1, 1), (5, .invokevirtual 113, 3), (8, .lstore_n 2, 1), (9, .aload_n 0, 1), (10, .getfield 29, 3), (13, .aload_n 0, 1), (14, .getfield 19, 3), (17, .invokevirtual 350, 3), (20, .aload_n 0, 1), (21, .getfield 19, 3), (24, .iload_n 1, 1), (25, .invokevirtual 359, 3), (28, .aload_n 0, 1), (29, .getfield 19, 3), (32, .invokevirtual 356, 3), (35, .lload_n 2, 1), (36, .lreturn, 1)] : List (Nat × Instr × Nat)), decode cX11_dropLine t.1 = .ok (t.2.1, t.2.2) := by decide +kernel
theorem hd_X11_turnDual : mHd yX11_turnDual 0 := ⟨by decide +kernel, by decide +kernel, by decide +kernel⟩
theorem DX11_turnDual_0 : ∀ t ∈ ([(0, .aload_n 0, 1), (1, .getfield 29, 3), (4, .aload_n 0, 1), (5, .getfield 19, 3), (8, .invokevirtual 350, 3), (11, .aload_n 0, 1), (12, .getfield 23, 3), (15, .aload_n 0, 1), (16, .getfield 19, 3), (19, .invokevirtual 362, 3), (22, .aload_n 0, 1), (23, .getfield 19, 3), (26, .aload_n 0, 1), (27, .getfield 23, 3), (30, .invokevirtual 97, 3), (33, .return_, 1)] : List (Nat × Instr × Nat)), decode cX11_turnDual t.1 = .ok (t.2.1, t.2.2) := by decide +kernel
theorem hd_X11_keepLeft : mHd yX11_keepLeft 1 := ⟨by decide +kernel, by decide +kernel, by decide +kernel⟩
theorem DX11_keepLeft_0 : ∀ t ∈ ([(0, .aload_n 0, 1), (1, .getfield 29, 3), (4, .aload_n 0, 1), (5, .getfield 19, 3), (8, .invokevirtual 350, 3), (11, .aload_n 0, 1), (12, .getfield 23, 3), (15, .aload_n 0, 1), (16, .getfield 19, 3), (19, .iload_n 1, 1), (20, .invokevirtual 365, 3), (23, .aload_n 0, 1), (24, .getfield 19, 3), (27, .aload_n 0, 1), (28, .getfield 23, 3), (31, .invokevirtual 97, 3), (34, .return_, 1)] : List (Nat × Instr × Nat)), decode cX11_keepLeft t.1 = .ok (t.2.1, t.2.2) := by decide +kernel
theorem hd_X11_undo : mHd yX11_undo 0 := ⟨by decide +kernel, by decide +kernel, by decide +kernel⟩
theorem DX11_undo_0 : ∀ t ∈ ([(0, .aload_n 0, 1), (1, .getfield 29, 3), (4, .aload_n 0, 1), (5, .getfield 19, 3), (8, .invokevirtual 273, 3), (11, .ireturn, 1)] : List (Nat × Instr × Nat)), decode cX11_undo t.1 = .ok (t.2.1, t.2.2) := by decide +kernel
theorem hd_X11_again : mHd yX11_again 0 := ⟨by decide +kernel, by decide +kernel, by decide +kernel⟩
theorem DX11_again_0 : ∀ t ∈ ([(0, .aload_n 0, 1), (1, .getfield 29, 3), (4, .aload_n 0, 1), (5, .getfield 19, 3), (8, .invokevirtual 277, 3), (11, .ireturn, 1)] : List (Nat × Instr × Nat)), decode cX11_again t.1 = .ok (t.2.1, t.2.2) := by decide +kernel
abbrev rm_X11_addLine : Room := { frames := 5, cells := 4, slots := 197, locals := 130 }
set_option maxHeartbeats 4000000 in
set_option maxRecDepth 100000 in
theorem c_X11_addLine {l : Launch} {G : mG} {ow : Nat → Nat} {m : mM} {qt qn qh : Nat → Nat} {stt stn : OS} {fb fa : Nat → Option Nat} {bs as : List OS} (hT : At G ow m LX11 qt stt) (hn : At G ow m LX10 qn stn) (hS : Hst G ow m qh fb fa bs as) (hnb : ∀ j, fb j ≠ some (qn 5)) (hna : ∀ j, fa j ≠ some (qn 5)) (hk1 : qt 1 = qn 5) (hk3 : qt 3 = qh 4) {set : Int64} {y1 y2 : OS} (hF1 : f_X10_append stn set = some y1) (hF2 : f_X10_settle y1 = some y2) : cQ l G yX11_addLine cX11_addLine 3 (some FieldType.boolean) rm_X11_addLine [.ref (qt 10), .long set] m (mQi G (fun r m' => (¬ stn.1 1 < 64 ∧ r = 0 ∧ m' = m) ∨ (stn.1 1 < 64 ∧ r = 1 ∧ ∃ ow1 fb1, Hst G ow1 m' qh fb1 fa (pushB bs stn) [] ∧ At G ow1 m' LX10 qn y2 ∧ HP G (fun r => r = qn 5) ow m qh fb fa ow1 m' fb1 fa))) := by
  refine mp_of (by decide +kernel) (Nat.le_of_ble_eq_true rfl) ?_
  intro p e s m9 below meth c X hr hlk hH hname ls hl
  replace hl : lv_has ls 3 [(0, .ref (qt 10)), (1, .long set)] := hl
  obtain ⟨⟨sth, hh, hb1, ha1⟩, hRb, hRa, hHb, hHa, hne, hdis, hle⟩ := id hS
  refine lv_aload_n X.x X.b (dk DX11_addLine_0 0 rfl) rfl (lv_at hl 0 rfl) ?_
  refine ag_getR (t := 4) OX11 X hT hH 1 (by decide) rfl kF_X11_19 (dk DX11_addLine_0 1 rfl) ?_
  rw [hk1]
  refine ag_getIN OX10 X hn hH 1 (by decide) rfl kFN_X11_104 (dk DX11_addLine_0 2 rfl) ?_
  refine lv_bipush (v := 64) X.x X.b (dk DX11_addLine_0 3 rfl) (by decide) ?_
  refine lv_icmp_lt (tgt := 14) X.x X.b (dk DX11_addLine_0 4 rfl) (by decide) (fun c => ?_) (fun c => ?_)
  · refine lv_aload_n X.x X.b (dk DX11_addLine_0 7 rfl) rfl (lv_at hl 0 rfl) ?_
    refine ag_getR (t := 4) OX11 X hT hH 3 (by decide) rfl kF_X11_29 (dk DX11_addLine_0 8 rfl) ?_
    rw [hk3]
    refine lv_aload_n X.x X.b (dk DX11_addLine_0 9 rfl) rfl (lv_at hl 0 rfl) ?_
    refine ag_getR (t := 4) OX11 X hT hH 1 (by decide) rfl kF_X11_19 (dk DX11_addLine_0 10 rfl) ?_
    rw [hk1]
    refine mr_cv hH (mr_runV (As := [.ref (qn 5)]) (rest := []) X hH (c_X1_keep hn hS hnb) hh.root OX1.1 kM_X11_350 kI_X1_keep kS_X1_keep kN_X1 kC_X1_keep hd_X1_keep ⟨Nat.le_of_ble_eq_true rfl, Nat.le_of_ble_eq_true rfl⟩ rfl hl.1 (Nat.le_of_ble_eq_true rfl) (dk DX11_addLine_0 11 rfl) ⟨by decide, by decide⟩) (fun m1 H locs hp hH => ?_)
    obtain ⟨ow1, fb1, hS1, hP1⟩ := hp
    have hT1 : At G ow1 m1 LX11 qt stt := hP1.1.1 _ _ _ (fun z => z.elim (HR.neAt hS hT (by decide) (by decide)) id) hT
    have hn1 : At G ow1 m1 LX10 qn stn := hP1.1.1 _ _ _ (fun z => z.elim (HR.neW hS hn hnb hna) id) hn
    refine lv_aload_n X.x X.b (dk DX11_addLine_0 12 rfl) rfl (lv_at hl 0 rfl) ?_
    refine ag_getR (t := 4) OX11 X hT1 hH 1 (by decide) rfl kF_X11_19 (dk DX11_addLine_0 13 rfl) ?_
    rw [hk1]
    refine lv_lload_n X.x X.b (dk DX11_addLine_0 14 rfl) rfl (lv_at hl 1 rfl) ?_
    refine mr_cv hH (mr_runV (As := [.long set]) (rest := []) X hH (at1 hn1 (c_X10_append hn1.1 hF1)) hn1.root OX10.1 kM_X11_353 kI_X10_append kS_X10_append kN_X10 kC_X10_append hd_X10_append ⟨Nat.le_of_ble_eq_true rfl, Nat.le_of_ble_eq_true rfl⟩ rfl hl.1 (Nat.le_of_ble_eq_true rfl) (dk DX11_addLine_0 15 rfl) ⟨by decide, by decide⟩) (fun h1 H locs hp hH => ?_)
    obtain ⟨m2, hm2⟩ : ∃ z, z = oset LX10 G qn y1 m1 := ⟨_, rfl⟩
    replace hH : mH G m2 s.heap H locs := by rw [hm2, ← hp]; exact hH
    have hn2 : At G ow1 m2 LX10 qn y1 := by rw [hm2]; exact hn1.self
    have hF12 : Fr (fun r => r = qn 5) ow1 m1 ow1 m2 := by rw [hm2]; exact hn1.fr
    have hT2 := hF12.at (fun z => hT1.ne hn1 (by decide) z) hT1
    refine lv_aload_n X.x X.b (dk DX11_addLine_0 16 rfl) rfl (lv_at hl 0 rfl) ?_
    refine ag_getR (t := 4) OX11 X hT2 hH 1 (by decide) rfl kF_X11_19 (dk DX11_addLine_0 17 rfl) ?_
    rw [hk1]
    refine mr_cv hH (mr_runV (As := []) (rest := []) X hH (at1 hn2 (c_X10_settle hn2.1 hF2)) hn2.root OX10.1 kM_X11_356 kI_X10_settle kS_X10_settle kN_X10 kC_X10_settle hd_X10_settle ⟨Nat.le_of_ble_eq_true rfl, Nat.le_of_ble_eq_true rfl⟩ rfl hl.1 (Nat.le_of_ble_eq_true rfl) (dk DX11_addLine_0 18 rfl) ⟨by decide, by decide⟩) (fun h1 H locs hp hH => ?_)
    obtain ⟨m3, hm3⟩ : ∃ z, z = oset LX10 G qn y2 m2 := ⟨_, rfl⟩
    replace hH : mH G m3 s.heap H locs := by rw [hm3, ← hp]; exact hH
    have hn3 : At G ow1 m3 LX10 qn y2 := by rw [hm3]; exact hn2.self
    have hF23 : Fr (fun r => r = qn 5) ow1 m2 ow1 m3 := by rw [hm3]; exact hn2.fr
    refine lv_iconst (v := 1) X.x X.b (dk DX11_addLine_0 19 rfl) (by decide) ?_
    have hFF : Fr (fun r => r = qn 5) ow1 m1 ow1 m3 := hF12.tr hF23
    have hnr1 : ¬ HR qh fb1 fa (qn 5) := fun z => (hP1.2 _ z).elim (HR.neW hS hn hnb hna) (fun z => by have := hn.root; rw [show qn LX10.2.1 = qn 5 from rfl, z] at this; cases this)
    have hS3 := hS1.frA (hFF.A) (fun r z w => hnr1 (by rw [← w]; exact z))
    have hP3 : HP G (fun r => r = qn 5) ow m qh fb fa ow1 m3 fb1 fa := (hP1.mono (fun _ z => z.elim)).tr ⟨(hFF.mono (fun _ z => Or.inr z)).A, fun a z => Or.inl z⟩
    exact mr_zret X hr hlk hH rfl (Or.inr ⟨c, rfl, ow1, fb1, hS3, hn3, hP3⟩) (dk DX11_addLine_0 20 rfl)
  · refine lv_iconst (v := 0) X.x X.b (dk DX11_addLine_0 5 rfl) (by decide) ?_
    exact W.widen (k := 4) (n := 197) (Nat.zero_le _) (Nat.zero_le _) (mr_zret X hr hlk hH rfl (Or.inl ⟨c, rfl, rfl⟩) (dk DX11_addLine_0 6 rfl))
abbrev rm_X11_dropLine : Room := { frames := 5, cells := 4, slots := 197, locals := 130 }
set_option maxHeartbeats 4000000 in
set_option maxRecDepth 100000 in
theorem c_X11_dropLine {l : Launch} {G : mG} {ow : Nat → Nat} {m : mM} {qt qn qh : Nat → Nat} {stt stn : OS} {fb fa : Nat → Option Nat} {bs as : List OS} (hT : At G ow m LX11 qt stt) (hn : At G ow m LX10 qn stn) (hS : Hst G ow m qh fb fa bs as) (hnb : ∀ j, fb j ≠ some (qn 5)) (hna : ∀ j, fa j ≠ some (qn 5)) (hk1 : qt 1 = qn 5) (hk3 : qt 3 = qh 4) {i : Int32} {v : Int64} {y1 y2 : OS} (hF0 : f_X10_setAt stn i = some v) (hF1 : f_X10_remove stn i = some y1) (hF2 : f_X10_settle y1 = some y2) : cQ l G yX11_dropLine cX11_dropLine 4 (some FieldType.long) rm_X11_dropLine [.ref (qt 10), .int i] m (mQl G (fun r m' => r = v ∧ ∃ ow1 fb1, Hst G ow1 m' qh fb1 fa (pushB bs stn) [] ∧ At G ow1 m' LX10 qn y2 ∧ HP G (fun r => r = qn 5) ow m qh fb fa ow1 m' fb1 fa)) := by
  refine mp_of (by decide +kernel) (Nat.le_of_ble_eq_true rfl) ?_
  intro p e s m9 below meth c X hr hlk hH hname ls hl
  replace hl : lv_has ls 4 [(0, .ref (qt 10)), (1, .int i)] := hl
  obtain ⟨⟨sth, hh, hb1, ha1⟩, hRb, hRa, hHb, hHa, hne, hdis, hle⟩ := id hS
  refine lv_aload_n X.x X.b (dk DX11_dropLine_0 0 rfl) rfl (lv_at hl 0 rfl) ?_
  refine ag_getR (t := 4) OX11 X hT hH 1 (by decide) rfl kF_X11_19 (dk DX11_dropLine_0 1 rfl) ?_
  rw [hk1]
  refine lv_iload_n X.x X.b (dk DX11_dropLine_0 2 rfl) rfl (lv_at hl 1 rfl) ?_
  refine mr_cl hH (mr_runV (As := [.int i]) (rest := []) X hH (at1 hn (c_X10_setAt hn.1 hF0)) hn.root OX10.1 kM_X11_113 kI_X10_setAt kS_X10_setAt kN_X10 kC_X10_setAt hd_X10_setAt ⟨Nat.le_of_ble_eq_true rfl, Nat.le_of_ble_eq_true rfl⟩ rfl hl.1 (Nat.le_of_ble_eq_true rfl) (dk DX11_dropLine_0 3 rfl) ⟨by decide, by decide⟩) (fun r h1 H locs hp hH => ?_)
  obtain ⟨hr1, hp⟩ := hp
  rw [hr1]
  rw [hp, hn.eq] at hH
  refine lv_lstore_n (lv' := [(2, .long v), (0, .ref (qt 10)), (1, .int i)]) X.x X.b (dk DX11_dropLine_0 4 rfl) rfl hl (by decide) rfl (fun ls hl => ?_)
  replace hl : lv_has ls 4 [(0, .ref (qt 10)), (1, .int i), (2, .long v)] := lv_sub hl [1, 2, 0] rfl
  refine lv_aload_n X.x X.b (dk DX11_dropLine_0 5 rfl) rfl (lv_at hl 0 rfl) ?_
  refine ag_getR (t := 4) OX11 X hT hH 3 (by decide) rfl kF_X11_29 (dk DX11_dropLine_0 6 rfl) ?_
  rw [hk3]
  refine lv_aload_n X.x X.b (dk DX11_dropLine_0 7 rfl) rfl (lv_at hl 0 rfl) ?_
  refine ag_getR (t := 4) OX11 X hT hH 1 (by decide) rfl kF_X11_19 (dk DX11_dropLine_0 8 rfl) ?_
  rw [hk1]
  refine mr_cv hH (mr_runV (As := [.ref (qn 5)]) (rest := []) X hH (c_X1_keep hn hS hnb) hh.root OX1.1 kM_X11_350 kI_X1_keep kS_X1_keep kN_X1 kC_X1_keep hd_X1_keep ⟨Nat.le_of_ble_eq_true rfl, Nat.le_of_ble_eq_true rfl⟩ rfl hl.1 (Nat.le_of_ble_eq_true rfl) (dk DX11_dropLine_0 9 rfl) ⟨by decide, by decide⟩) (fun m1 H locs hp hH => ?_)
  obtain ⟨ow1, fb1, hS1, hP1⟩ := hp
  have hT1 : At G ow1 m1 LX11 qt stt := hP1.1.1 _ _ _ (fun z => z.elim (HR.neAt hS hT (by decide) (by decide)) id) hT
  have hn1 : At G ow1 m1 LX10 qn stn := hP1.1.1 _ _ _ (fun z => z.elim (HR.neW hS hn hnb hna) id) hn
  refine lv_aload_n X.x X.b (dk DX11_dropLine_0 10 rfl) rfl (lv_at hl 0 rfl) ?_
  refine ag_getR (t := 4) OX11 X hT1 hH 1 (by decide) rfl kF_X11_19 (dk DX11_dropLine_0 11 rfl) ?_
  rw [hk1]
  refine lv_iload_n X.x X.b (dk DX11_dropLine_0 12 rfl) rfl (lv_at hl 1 rfl) ?_
  refine mr_cv hH (mr_runV (As := [.int i]) (rest := []) X hH (at1 hn1 (c_X10_remove hn1.1 hF1)) hn1.root OX10.1 kM_X11_359 kI_X10_remove kS_X10_remove kN_X10 kC_X10_remove hd_X10_remove ⟨Nat.le_of_ble_eq_true rfl, Nat.le_of_ble_eq_true rfl⟩ rfl hl.1 (Nat.le_of_ble_eq_true rfl) (dk DX11_dropLine_0 13 rfl) ⟨by decide, by decide⟩) (fun h1 H locs hp hH => ?_)
  obtain ⟨m2, hm2⟩ : ∃ z, z = oset LX10 G qn y1 m1 := ⟨_, rfl⟩
  replace hH : mH G m2 s.heap H locs := by rw [hm2, ← hp]; exact hH
  have hn2 : At G ow1 m2 LX10 qn y1 := by rw [hm2]; exact hn1.self
  have hF12 : Fr (fun r => r = qn 5) ow1 m1 ow1 m2 := by rw [hm2]; exact hn1.fr
  have hT2 := hF12.at (fun z => hT1.ne hn1 (by decide) z) hT1
  refine lv_aload_n X.x X.b (dk DX11_dropLine_0 14 rfl) rfl (lv_at hl 0 rfl) ?_
  refine ag_getR (t := 4) OX11 X hT2 hH 1 (by decide) rfl kF_X11_19 (dk DX11_dropLine_0 15 rfl) ?_
  rw [hk1]
  refine mr_cv hH (mr_runV (As := []) (rest := []) X hH (at1 hn2 (c_X10_settle hn2.1 hF2)) hn2.root OX10.1 kM_X11_356 kI_X10_settle kS_X10_settle kN_X10 kC_X10_settle hd_X10_settle ⟨Nat.le_of_ble_eq_true rfl, Nat.le_of_ble_eq_true rfl⟩ rfl hl.1 (Nat.le_of_ble_eq_true rfl) (dk DX11_dropLine_0 16 rfl) ⟨by decide, by decide⟩) (fun h1 H locs hp hH => ?_)
  obtain ⟨m3, hm3⟩ : ∃ z, z = oset LX10 G qn y2 m2 := ⟨_, rfl⟩
  replace hH : mH G m3 s.heap H locs := by rw [hm3, ← hp]; exact hH
  have hn3 : At G ow1 m3 LX10 qn y2 := by rw [hm3]; exact hn2.self
  have hF23 : Fr (fun r => r = qn 5) ow1 m2 ow1 m3 := by rw [hm3]; exact hn2.fr
  refine lv_lload_n X.x X.b (dk DX11_dropLine_0 17 rfl) rfl (lv_at hl 2 rfl) ?_
  have hFF : Fr (fun r => r = qn 5) ow1 m1 ow1 m3 := hF12.tr hF23
  have hnr1 : ¬ HR qh fb1 fa (qn 5) := fun z => (hP1.2 _ z).elim (HR.neW hS hn hnb hna) (fun z => by have := hn.root; rw [show qn LX10.2.1 = qn 5 from rfl, z] at this; cases this)
  have hS3 := hS1.frA (hFF.A) (fun r z w => hnr1 (by rw [← w]; exact z))
  have hP3 : HP G (fun r => r = qn 5) ow m qh fb fa ow1 m3 fb1 fa := (hP1.mono (fun _ z => z.elim)).tr ⟨(hFF.mono (fun _ z => Or.inr z)).A, fun a z => Or.inl z⟩
  exact mr_lret X hr hlk hH ⟨rfl, ow1, fb1, hS3, hn3, hP3⟩ (dk DX11_dropLine_0 18 rfl)
abbrev rm_X11_turnDual : Room := { frames := 5, cells := 4, slots := 197, locals := 130 }
set_option maxHeartbeats 4000000 in
set_option maxRecDepth 100000 in
theorem c_X11_turnDual {l : Launch} {G : mG} {ow : Nat → Nat} {m : mM} {qt qn qh qd : Nat → Nat} {stt stn std : OS} {fb fa : Nat → Option Nat} {bs as : List OS} (hT : At G ow m LX11 qt stt) (hn : At G ow m LX10 qn stn) (hS : Hst G ow m qh fb fa bs as) (hnb : ∀ j, fb j ≠ some (qn 5)) (hna : ∀ j, fa j ≠ some (qn 5)) (hk1 : qt 1 = qn 5) (hk3 : qt 3 = qh 4) (hd : At G ow m LX10 qd std) (hdb : ∀ j, fb j ≠ some (qd 5)) (hda : ∀ j, fa j ≠ some (qd 5)) (hk2 : qt 2 = qd 5) (hdn : qd 5 ≠ qn 5) {y1 : OS} (hF1 : f_X10_becomeDualOf std stn = some y1) : cQ l G yX11_turnDual cX11_turnDual 1 none rm_X11_turnDual [.ref (qt 10)] m (mQv G (fun m' => ∃ ow1 fb1 x, Hst G ow1 m' qh fb1 fa (pushB bs stn) [] ∧ At G ow1 m' LX10 qn x ∧ sameW x y1 ∧ At G ow1 m' LX10 qd y1 ∧ HP G (fun r => r = qn 5 ∨ r = qd 5) ow m qh fb fa ow1 m' fb1 fa)) := by
  refine mp_of (by decide +kernel) (Nat.le_of_ble_eq_true rfl) ?_
  intro p e s m9 below meth c X hr hlk hH hname ls hl
  replace hl : lv_has ls 1 [(0, .ref (qt 10))] := hl
  obtain ⟨⟨sth, hh, hb1, ha1⟩, hRb, hRa, hHb, hHa, hne, hdis, hle⟩ := id hS
  refine lv_aload_n X.x X.b (dk DX11_turnDual_0 0 rfl) rfl (lv_at hl 0 rfl) ?_
  refine ag_getR (t := 4) OX11 X hT hH 3 (by decide) rfl kF_X11_29 (dk DX11_turnDual_0 1 rfl) ?_
  rw [hk3]
  refine lv_aload_n X.x X.b (dk DX11_turnDual_0 2 rfl) rfl (lv_at hl 0 rfl) ?_
  refine ag_getR (t := 4) OX11 X hT hH 1 (by decide) rfl kF_X11_19 (dk DX11_turnDual_0 3 rfl) ?_
  rw [hk1]
  refine mr_cv hH (mr_runV (As := [.ref (qn 5)]) (rest := []) X hH (c_X1_keep hn hS hnb) hh.root OX1.1 kM_X11_350 kI_X1_keep kS_X1_keep kN_X1 kC_X1_keep hd_X1_keep ⟨Nat.le_of_ble_eq_true rfl, Nat.le_of_ble_eq_true rfl⟩ rfl hl.1 (Nat.le_of_ble_eq_true rfl) (dk DX11_turnDual_0 4 rfl) ⟨by decide, by decide⟩) (fun m1 H locs hp hH => ?_)
  obtain ⟨ow1, fb1, hS1, hP1⟩ := hp
  have hT1 : At G ow1 m1 LX11 qt stt := hP1.1.1 _ _ _ (fun z => z.elim (HR.neAt hS hT (by decide) (by decide)) id) hT
  have hn1 : At G ow1 m1 LX10 qn stn := hP1.1.1 _ _ _ (fun z => z.elim (HR.neW hS hn hnb hna) id) hn
  have hd1 : At G ow1 m1 LX10 qd std := hP1.1.1 _ _ _ (fun z => z.elim (HR.neW hS hd hdb hda) id) hd
  refine lv_aload_n X.x X.b (dk DX11_turnDual_0 5 rfl) rfl (lv_at hl 0 rfl) ?_
  refine ag_getR (t := 4) OX11 X hT1 hH 2 (by decide) rfl kF_X11_23 (dk DX11_turnDual_0 6 rfl) ?_
  rw [hk2]
  refine lv_aload_n X.x X.b (dk DX11_turnDual_0 7 rfl) rfl (lv_at hl 0 rfl) ?_
  refine ag_getR (t := 4) OX11 X hT1 hH 1 (by decide) rfl kF_X11_19 (dk DX11_turnDual_0 8 rfl) ?_
  rw [hk1]
  refine mr_cv hH (mr_runV (As := [.ref (qn 5)]) (rest := []) X hH (at2 hd1 hn1 (c_X10_becomeDualOf hd1.1 hn1.1 (oap2 (hd1.dis hn1 hdn)) hF1)) hd1.root OX10.1 kM_X11_362 kI_X10_becomeDualOf kS_X10_becomeDualOf kN_X10 kC_X10_becomeDualOf hd_X10_becomeDualOf ⟨Nat.le_of_ble_eq_true rfl, Nat.le_of_ble_eq_true rfl⟩ rfl hl.1 (Nat.le_of_ble_eq_true rfl) (dk DX11_turnDual_0 9 rfl) ⟨by decide, by decide⟩) (fun h1 H locs hp hH => ?_)
  rw [hn1.eq] at hp
  obtain ⟨m2, hm2⟩ : ∃ z, z = oset LX10 G qd y1 m1 := ⟨_, rfl⟩
  replace hH : mH G m2 s.heap H locs := by rw [hm2, ← hp]; exact hH
  have hd2 : At G ow1 m2 LX10 qd y1 := by rw [hm2]; exact hd1.self
  have hF12 : Fr (fun r => r = qd 5) ow1 m1 ow1 m2 := by rw [hm2]; exact hd1.fr
  have hT2 := hF12.at (fun z => hT1.ne hd1 (by decide) z) hT1
  have hn2 := hF12.at (fun z => hdn z.symm) hn1
  refine lv_aload_n X.x X.b (dk DX11_turnDual_0 10 rfl) rfl (lv_at hl 0 rfl) ?_
  refine ag_getR (t := 4) OX11 X hT2 hH 1 (by decide) rfl kF_X11_19 (dk DX11_turnDual_0 11 rfl) ?_
  rw [hk1]
  refine lv_aload_n X.x X.b (dk DX11_turnDual_0 12 rfl) rfl (lv_at hl 0 rfl) ?_
  refine ag_getR (t := 4) OX11 X hT2 hH 2 (by decide) rfl kF_X11_23 (dk DX11_turnDual_0 13 rfl) ?_
  rw [hk2]
  obtain ⟨x, hx, hcp⟩ := c_copyA (l := l) hn2 hd2 (fun z => hdn z.symm)
  refine mr_cv hH (mr_runV (As := [.ref (qd 5)]) (rest := []) X hH hcp hn2.root OX10.1 kM_X11_97 kI_X10_copy kS_X10_copy kN_X10 kC_X10_copy hd_X10_copy ⟨Nat.le_of_ble_eq_true rfl, Nat.le_of_ble_eq_true rfl⟩ rfl hl.1 (Nat.le_of_ble_eq_true rfl) (dk DX11_turnDual_0 14 rfl) ⟨by decide, by decide⟩) (fun h1 H locs hp hH => ?_)
  obtain ⟨m3, hm3⟩ : ∃ z, z = oset LX10 G qn x m2 := ⟨_, rfl⟩
  replace hH : mH G m3 s.heap H locs := by rw [hm3, ← hp]; exact hH
  have hn3 : At G ow1 m3 LX10 qn x := by rw [hm3]; exact hn2.self
  have hF23 : Fr (fun r => r = qn 5) ow1 m2 ow1 m3 := by rw [hm3]; exact hn2.fr
  have hd3 := hF23.at hdn hd2
  have hFF : Fr (fun r => r = qn 5 ∨ r = qd 5) ow1 m1 ow1 m3 := (hF12.mono (fun _ z => Or.inr z)).tr (hF23.mono (fun _ z => Or.inl z))
  have hnr1 : ∀ {q : Nat → Nat} {st : OS}, At G ow m LX10 q st → (∀ j, fb j ≠ some (q 5)) → (∀ j, fa j ≠ some (q 5)) → ¬ HR qh fb1 fa (q 5) := fun {q st} hq h1 h2 z => (hP1.2 _ z).elim (HR.neW hS hq h1 h2) (fun z => by have := hq.root; rw [show q LX10.2.1 = q 5 from rfl, z] at this; cases this)
  have hS3 := hS1.frA (hFF.A) (fun r z w => w.elim (fun w => hnr1 hn hnb hna (by rw [← w]; exact z)) (fun w => hnr1 hd hdb hda (by rw [← w]; exact z)))
  have hP3 : HP G (fun r => r = qn 5 ∨ r = qd 5) ow m qh fb fa ow1 m3 fb1 fa := (hP1.mono (fun _ z => z.elim)).tr ⟨(hFF.mono (fun _ z => Or.inr z)).A, fun a z => Or.inl z⟩
  exact mr_vret X hr hlk hH ⟨ow1, fb1, x, hS3, hn3, hx, hd3, hP3⟩ (dk DX11_turnDual_0 15 rfl)
abbrev rm_X11_keepLeft : Room := { frames := 5, cells := 4, slots := 197, locals := 130 }
set_option maxHeartbeats 4000000 in
set_option maxRecDepth 100000 in
theorem c_X11_keepLeft {l : Launch} {G : mG} {ow : Nat → Nat} {m : mM} {qt qn qh qd : Nat → Nat} {stt stn std : OS} {fb fa : Nat → Option Nat} {bs as : List OS} (hT : At G ow m LX11 qt stt) (hn : At G ow m LX10 qn stn) (hS : Hst G ow m qh fb fa bs as) (hnb : ∀ j, fb j ≠ some (qn 5)) (hna : ∀ j, fa j ≠ some (qn 5)) (hk1 : qt 1 = qn 5) (hk3 : qt 3 = qh 4) (hd : At G ow m LX10 qd std) (hdb : ∀ j, fb j ≠ some (qd 5)) (hda : ∀ j, fa j ≠ some (qd 5)) (hk2 : qt 2 = qd 5) (hdn : qd 5 ≠ qn 5) {i : Int32} {y1 : OS} (hF1 : f_X10_becomeLeftOf std stn i = some y1) : cQ l G yX11_keepLeft cX11_keepLeft 2 none rm_X11_keepLeft [.ref (qt 10), .int i] m (mQv G (fun m' => ∃ ow1 fb1 x, Hst G ow1 m' qh fb1 fa (pushB bs stn) [] ∧ At G ow1 m' LX10 qn x ∧ sameW x y1 ∧ At G ow1 m' LX10 qd y1 ∧ HP G (fun r => r = qn 5 ∨ r = qd 5) ow m qh fb fa ow1 m' fb1 fa)) := by
  refine mp_of (by decide +kernel) (Nat.le_of_ble_eq_true rfl) ?_
  intro p e s m9 below meth c X hr hlk hH hname ls hl
  replace hl : lv_has ls 2 [(0, .ref (qt 10)), (1, .int i)] := hl
  obtain ⟨⟨sth, hh, hb1, ha1⟩, hRb, hRa, hHb, hHa, hne, hdis, hle⟩ := id hS
  refine lv_aload_n X.x X.b (dk DX11_keepLeft_0 0 rfl) rfl (lv_at hl 0 rfl) ?_
  refine ag_getR (t := 4) OX11 X hT hH 3 (by decide) rfl kF_X11_29 (dk DX11_keepLeft_0 1 rfl) ?_
  rw [hk3]
  refine lv_aload_n X.x X.b (dk DX11_keepLeft_0 2 rfl) rfl (lv_at hl 0 rfl) ?_
  refine ag_getR (t := 4) OX11 X hT hH 1 (by decide) rfl kF_X11_19 (dk DX11_keepLeft_0 3 rfl) ?_
  rw [hk1]
  refine mr_cv hH (mr_runV (As := [.ref (qn 5)]) (rest := []) X hH (c_X1_keep hn hS hnb) hh.root OX1.1 kM_X11_350 kI_X1_keep kS_X1_keep kN_X1 kC_X1_keep hd_X1_keep ⟨Nat.le_of_ble_eq_true rfl, Nat.le_of_ble_eq_true rfl⟩ rfl hl.1 (Nat.le_of_ble_eq_true rfl) (dk DX11_keepLeft_0 4 rfl) ⟨by decide, by decide⟩) (fun m1 H locs hp hH => ?_)
  obtain ⟨ow1, fb1, hS1, hP1⟩ := hp
  have hT1 : At G ow1 m1 LX11 qt stt := hP1.1.1 _ _ _ (fun z => z.elim (HR.neAt hS hT (by decide) (by decide)) id) hT
  have hn1 : At G ow1 m1 LX10 qn stn := hP1.1.1 _ _ _ (fun z => z.elim (HR.neW hS hn hnb hna) id) hn
  have hd1 : At G ow1 m1 LX10 qd std := hP1.1.1 _ _ _ (fun z => z.elim (HR.neW hS hd hdb hda) id) hd
  refine lv_aload_n X.x X.b (dk DX11_keepLeft_0 5 rfl) rfl (lv_at hl 0 rfl) ?_
  refine ag_getR (t := 4) OX11 X hT1 hH 2 (by decide) rfl kF_X11_23 (dk DX11_keepLeft_0 6 rfl) ?_
  rw [hk2]
  refine lv_aload_n X.x X.b (dk DX11_keepLeft_0 7 rfl) rfl (lv_at hl 0 rfl) ?_
  refine ag_getR (t := 4) OX11 X hT1 hH 1 (by decide) rfl kF_X11_19 (dk DX11_keepLeft_0 8 rfl) ?_
  rw [hk1]
  refine lv_iload_n X.x X.b (dk DX11_keepLeft_0 9 rfl) rfl (lv_at hl 1 rfl) ?_
  refine mr_cv hH (mr_runV (As := [.ref (qn 5), .int i]) (rest := []) X hH (at2 hd1 hn1 (c_X10_becomeLeftOf hd1.1 hn1.1 (oap2 (hd1.dis hn1 hdn)) hF1)) hd1.root OX10.1 kM_X11_365 kI_X10_becomeLeftOf kS_X10_becomeLeftOf kN_X10 kC_X10_becomeLeftOf hd_X10_becomeLeftOf ⟨Nat.le_of_ble_eq_true rfl, Nat.le_of_ble_eq_true rfl⟩ rfl hl.1 (Nat.le_of_ble_eq_true rfl) (dk DX11_keepLeft_0 10 rfl) ⟨by decide, by decide⟩) (fun h1 H locs hp hH => ?_)
  rw [hn1.eq] at hp
  obtain ⟨m2, hm2⟩ : ∃ z, z = oset LX10 G qd y1 m1 := ⟨_, rfl⟩
  replace hH : mH G m2 s.heap H locs := by rw [hm2, ← hp]; exact hH
  have hd2 : At G ow1 m2 LX10 qd y1 := by rw [hm2]; exact hd1.self
  have hF12 : Fr (fun r => r = qd 5) ow1 m1 ow1 m2 := by rw [hm2]; exact hd1.fr
  have hT2 := hF12.at (fun z => hT1.ne hd1 (by decide) z) hT1
  have hn2 := hF12.at (fun z => hdn z.symm) hn1
  refine lv_aload_n X.x X.b (dk DX11_keepLeft_0 11 rfl) rfl (lv_at hl 0 rfl) ?_
  refine ag_getR (t := 4) OX11 X hT2 hH 1 (by decide) rfl kF_X11_19 (dk DX11_keepLeft_0 12 rfl) ?_
  rw [hk1]
  refine lv_aload_n X.x X.b (dk DX11_keepLeft_0 13 rfl) rfl (lv_at hl 0 rfl) ?_
  refine ag_getR (t := 4) OX11 X hT2 hH 2 (by decide) rfl kF_X11_23 (dk DX11_keepLeft_0 14 rfl) ?_
  rw [hk2]
  obtain ⟨x, hx, hcp⟩ := c_copyA (l := l) hn2 hd2 (fun z => hdn z.symm)
  refine mr_cv hH (mr_runV (As := [.ref (qd 5)]) (rest := []) X hH hcp hn2.root OX10.1 kM_X11_97 kI_X10_copy kS_X10_copy kN_X10 kC_X10_copy hd_X10_copy ⟨Nat.le_of_ble_eq_true rfl, Nat.le_of_ble_eq_true rfl⟩ rfl hl.1 (Nat.le_of_ble_eq_true rfl) (dk DX11_keepLeft_0 15 rfl) ⟨by decide, by decide⟩) (fun h1 H locs hp hH => ?_)
  obtain ⟨m3, hm3⟩ : ∃ z, z = oset LX10 G qn x m2 := ⟨_, rfl⟩
  replace hH : mH G m3 s.heap H locs := by rw [hm3, ← hp]; exact hH
  have hn3 : At G ow1 m3 LX10 qn x := by rw [hm3]; exact hn2.self
  have hF23 : Fr (fun r => r = qn 5) ow1 m2 ow1 m3 := by rw [hm3]; exact hn2.fr
  have hd3 := hF23.at hdn hd2
  have hFF : Fr (fun r => r = qn 5 ∨ r = qd 5) ow1 m1 ow1 m3 := (hF12.mono (fun _ z => Or.inr z)).tr (hF23.mono (fun _ z => Or.inl z))
  have hnr1 : ∀ {q : Nat → Nat} {st : OS}, At G ow m LX10 q st → (∀ j, fb j ≠ some (q 5)) → (∀ j, fa j ≠ some (q 5)) → ¬ HR qh fb1 fa (q 5) := fun {q st} hq h1 h2 z => (hP1.2 _ z).elim (HR.neW hS hq h1 h2) (fun z => by have := hq.root; rw [show q LX10.2.1 = q 5 from rfl, z] at this; cases this)
  have hS3 := hS1.frA (hFF.A) (fun r z w => w.elim (fun w => hnr1 hn hnb hna (by rw [← w]; exact z)) (fun w => hnr1 hd hdb hda (by rw [← w]; exact z)))
  have hP3 : HP G (fun r => r = qn 5 ∨ r = qd 5) ow m qh fb fa ow1 m3 fb1 fa := (hP1.mono (fun _ z => z.elim)).tr ⟨(hFF.mono (fun _ z => Or.inr z)).A, fun a z => Or.inl z⟩
  exact mr_vret X hr hlk hH ⟨ow1, fb1, x, hS3, hn3, hx, hd3, hP3⟩ (dk DX11_keepLeft_0 16 rfl)
abbrev rm_X11_undo : Room := { frames := 5, cells := 4, slots := 197, locals := 130 }
set_option maxHeartbeats 4000000 in
set_option maxRecDepth 100000 in
theorem c_X11_undo {l : Launch} {G : mG} {ow : Nat → Nat} {m : mM} {qt qn qh : Nat → Nat} {stt stn : OS} {fb fa : Nat → Option Nat} {bs as : List OS} (hT : At G ow m LX11 qt stt) (hn : At G ow m LX10 qn stn) (hS : Hst G ow m qh fb fa bs as) (hnb : ∀ j, fb j ≠ some (qn 5)) (hna : ∀ j, fa j ≠ some (qn 5)) (hk1 : qt 1 = qn 5) (hk3 : qt 3 = qh 4) : cQ l G yX11_undo cX11_undo 1 (some FieldType.boolean) rm_X11_undo [.ref (qt 10)] m (mQi G (fun r m' => (bs = [] ∧ r = 0 ∧ m' = m) ∨ (∃ s0 y, bs = s0 ++ [y] ∧ r = 1 ∧ ∃ ow1 fd1 x, Hst G ow1 m' qh fb fd1 s0 (as ++ [stn]) ∧ At G ow1 m' LX10 qn x ∧ sameW x y ∧ HP G (fun r => r = qn 5) ow m qh fb fa ow1 m' fb fd1))) := by
  refine mp_of (by decide +kernel) (Nat.le_of_ble_eq_true rfl) ?_
  intro p e s m9 below meth c X hr hlk hH hname ls hl
  replace hl : lv_has ls 1 [(0, .ref (qt 10))] := hl
  obtain ⟨⟨sth, hh, hb1, ha1⟩, hRb, hRa, hHb, hHa, hne, hdis, hle⟩ := id hS
  refine lv_aload_n X.x X.b (dk DX11_undo_0 0 rfl) rfl (lv_at hl 0 rfl) ?_
  refine ag_getR (t := 4) OX11 X hT hH 3 (by decide) rfl kF_X11_29 (dk DX11_undo_0 1 rfl) ?_
  rw [hk3]
  refine lv_aload_n X.x X.b (dk DX11_undo_0 2 rfl) rfl (lv_at hl 0 rfl) ?_
  refine ag_getR (t := 4) OX11 X hT hH 1 (by decide) rfl kF_X11_19 (dk DX11_undo_0 3 rfl) ?_
  rw [hk1]
  refine mr_ci hH (mr_runV (As := [.ref (qn 5)]) (rest := []) X hH (c_X1_goBack hn hS hnb hna) hh.root OX1.1 kM_X11_273 kI_X1_goBack kS_X1_goBack kN_X1 kC_X1_goBack hd_X1_goBack ⟨Nat.le_of_ble_eq_true rfl, Nat.le_of_ble_eq_true rfl⟩ rfl hl.1 (Nat.le_of_ble_eq_true rfl) (dk DX11_undo_0 4 rfl) ⟨by decide, by decide⟩) (fun r m1 H locs hp hH => ?_)
  have hr1 : narrow .boolean (.int r) = .int r := by
    rcases hp with ⟨-, h, -⟩ | ⟨_, _, -, h, -⟩ <;> rw [h] <;> rfl
  exact mr_zret X hr hlk hH hr1 hp (dk DX11_undo_0 5 rfl)
abbrev rm_X11_again : Room := { frames := 5, cells := 4, slots := 197, locals := 130 }
set_option maxHeartbeats 4000000 in
set_option maxRecDepth 100000 in
theorem c_X11_again {l : Launch} {G : mG} {ow : Nat → Nat} {m : mM} {qt qn qh : Nat → Nat} {stt stn : OS} {fb fa : Nat → Option Nat} {bs as : List OS} (hT : At G ow m LX11 qt stt) (hn : At G ow m LX10 qn stn) (hS : Hst G ow m qh fb fa bs as) (hnb : ∀ j, fb j ≠ some (qn 5)) (hna : ∀ j, fa j ≠ some (qn 5)) (hk1 : qt 1 = qn 5) (hk3 : qt 3 = qh 4) : cQ l G yX11_again cX11_again 1 (some FieldType.boolean) rm_X11_again [.ref (qt 10)] m (mQi G (fun r m' => (as = [] ∧ r = 0 ∧ m' = m) ∨ (∃ s0 y, as = s0 ++ [y] ∧ r = 1 ∧ ∃ ow1 fd1 x, Hst G ow1 m' qh fd1 fa (bs ++ [stn]) s0 ∧ At G ow1 m' LX10 qn x ∧ sameW x y ∧ HP G (fun r => r = qn 5) ow m qh fb fa ow1 m' fd1 fa))) := by
  refine mp_of (by decide +kernel) (Nat.le_of_ble_eq_true rfl) ?_
  intro p e s m9 below meth c X hr hlk hH hname ls hl
  replace hl : lv_has ls 1 [(0, .ref (qt 10))] := hl
  obtain ⟨⟨sth, hh, hb1, ha1⟩, hRb, hRa, hHb, hHa, hne, hdis, hle⟩ := id hS
  refine lv_aload_n X.x X.b (dk DX11_again_0 0 rfl) rfl (lv_at hl 0 rfl) ?_
  refine ag_getR (t := 4) OX11 X hT hH 3 (by decide) rfl kF_X11_29 (dk DX11_again_0 1 rfl) ?_
  rw [hk3]
  refine lv_aload_n X.x X.b (dk DX11_again_0 2 rfl) rfl (lv_at hl 0 rfl) ?_
  refine ag_getR (t := 4) OX11 X hT hH 1 (by decide) rfl kF_X11_19 (dk DX11_again_0 3 rfl) ?_
  rw [hk1]
  refine mr_ci hH (mr_runV (As := [.ref (qn 5)]) (rest := []) X hH (c_X1_goOn hn hS hnb hna) hh.root OX1.1 kM_X11_277 kI_X1_goOn kS_X1_goOn kN_X1 kC_X1_goOn hd_X1_goOn ⟨Nat.le_of_ble_eq_true rfl, Nat.le_of_ble_eq_true rfl⟩ rfl hl.1 (Nat.le_of_ble_eq_true rfl) (dk DX11_again_0 4 rfl) ⟨by decide, by decide⟩) (fun r m1 H locs hp hH => ?_)
  have hr1 : narrow .boolean (.int r) = .int r := by
    rcases hp with ⟨-, h, -⟩ | ⟨_, _, -, h, -⟩ <;> rw [h] <;> rfl
  exact mr_zret X hr hlk hH hr1 hp (dk DX11_again_0 5 rfl)
