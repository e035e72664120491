/-! told acts -/
abbrev Wst : Type := Wd × List Wd × List Wd
/-- a tray: its sort, its numbers -/
def TrC (st : OS) (so : Nat) (l : List Int64) : Prop := st.1 0 = nI so ∧ so ≤ 3 ∧ st.1 1 = nI l.length ∧ l.length ≤ 40 ∧ ∀ i, i < l.length → st.2.2.2 2 i = wl l i
theorem cellAt_7 {st : OS} {so : Nat} {l : List Int64} (h : TrC st so l) {i : Nat} (hi : i < 2 ^ 31) : f_X7_cellAt st (nI i) = some (wl l i) := by
  obtain ⟨h0, h1, h2, h3, h4⟩ := h
  unfold f_X7_cellAt
  rw [if_neg (nI_pos hi), h2]
  by_cases hl : i < l.length
  · rw [if_neg (nI_ge hl (by omega)), if_neg (show ¬ (40 : Int32) ≤ nI i from nI_ge (a := i) (b := 40) (by omega) (by decide)), if_pos (inb_t (by omega) (by omega)), nI_clamp hi, h4 i hl]
  · rw [if_pos (nI_le (by omega) hi), wl_out (by omega)]
def told (row : List Int64) (n : Nat) : Nat → Nat → Int64 → Option (Int64 × Nat)
  | 0, i, s => some (s, i)
  | f + 1, i, s => if wl row i < 0 then some (s, i) else if wl row i < lN n then told row n f (i + 1) (s ||| bit1 (wl row i).toBitVec.toNat) else none
theorem told_e {row : List Int64} {n : Nat} : ∀ (f i : Nat) (s s' : Int64) (e : Nat), told row n f i s = some (s', e) → i ≤ e ∧ e ≤ i + f := by
  intro f
  induction f with
  | zero => intro i s s' e h; cases h; omega
  | succ f ih =>
    intro i s s' e h
    unfold told at h
    split at h
    · cases h; omega
    · split at h
      · have := ih _ _ _ _ h; omega
      · cases h
def actM (row : List Int64) (k : Nat) (s : Wst) : Nat × Wst :=
  if wl row k = -1 then
    match told row s.1.1 (row.length - (k + 1)) (k + 1) 0 with
    | none => (0, s)
    | some (set, e) => if pcn set < 2 then (0, s) else if s.1.2.length = 64 then (0, s) else (e - k, ((s.1.1, s.1.2 ++ [set]), pushW s.2.1 s.1, []))
  else if wl row k = -2 then
    if k + 1 < row.length ∧ ¬ wl row (k + 1) < 0 ∧ wl row (k + 1) < lN s.1.2.length then (2, ((s.1.1, s.1.2.eraseIdx (wl row (k + 1)).toBitVec.toNat), pushW s.2.1 s.1, [])) else (0, s)
  else if wl row k = -4 then
    if k + 1 < row.length ∧ ¬ wl row (k + 1) < 0 ∧ wl row (k + 1) < lN s.1.1 then (2, (leftW s.1 (wl row (k + 1)).toBitVec.toNat, pushW s.2.1 s.1, [])) else (0, s)
  else if wl row k = -3 then (1, (dualW s.1, pushW s.2.1 s.1, []))
  else if wl row k = -5 then
    match s.2.1.getLast? with
    | none => (0, s)
    | some v => (1, (v, s.2.1.dropLast, s.2.2 ++ [s.1]))
  else if wl row k = -6 then
    match s.2.2.getLast? with
    | none => (0, s)
    | some v => (1, (v, s.2.1 ++ [s.1], s.2.2.dropLast))
  else (0, s)
def perfM (row : List Int64) : Nat → Nat → Wst → Nat × Wst
  | 0, k, s => (k, s)
  | f + 1, k, s => if row.length ≤ k then (k, s) else if (actM row k s).1 = 0 then (k, s) else perfM row f (k + (actM row k s).1) (actM row k s).2
theorem lN_of_lt {v : Int64} {n : Nat} (hn : n ≤ 64) (h0 : ¬ v < 0) (h : v < lN n) : ∃ j, j < n ∧ v = lN j ∧ v.toBitVec.toNat = j := by
  obtain ⟨j, hj, rfl⟩ := pk_lOf h0
  have := (pk_lLT hj (by omega)).mp h
  exact ⟨j, this, rfl, wb_tn (by omega)⟩
theorem hd_X11_addTold : mHd yX11_addTold 2 := ⟨by decide +kernel, by decide +kernel, by decide +kernel⟩
theorem DX11_addTold_0 : ∀ t ∈ ([(0, .lconst 0, 1), (1, .lstore_n 3, 1), (2, .iconst 1, 1), (3, .istore 5, 2), (5, .iload_n 2, 1), (6, .iconst 1, 1), (7, .iadd, 1), (8, .istore 6, 2), (10, .iload 6, 2), (12, .aload_n 1, 1), (13, .getfield 284, 3), (16, .if_icmp .ge 55, 3), (19, .aload_n 1, 1), (20, .iload 6, 2), (22, .invokevirtual 311, 3), (25, .lconst 0, 1), (26, .lcmp, 1), (27, .ifCond .lt 44, 3), (30, .aload_n 1, 1), (31, .iload 6, 2), (33, .invokevirtual 311, 3), (36, .lstore 7, 2), (38, .lload 7, 2), (40, .aload_n 0, 1), (41, .getfield 19, 3), (44, .getfield 239, 3), (47, .i2l, 1), (48, .lcmp, 1), (49, .ifCond .lt 5, 3), (52, .iconst 0, 1), (53, .ireturn, 1), (54, .lload_n 3, 1), (55, .lconst 1, 1), (56, .lload 7, 2), (58, .l2i, 1), (59, .lshl, 1), (60, .lor, 1), (61, .lstore_n 3, 1), (62, .iinc 5 1, 3), (65, .iinc 6 1, 3), (68, .goto (-58), 3), (71, .lload_n 3, 1), (72, .invokestatic 145, 3), (75, .iconst 2, 1), (76, .if_icmp .lt 16, 3), (79, .aload_n 0, 1), (80, .lload_n 3, 1), (81, .invokevirtual 260, 3), (84, .ifCond .eq 8, 3), (87, .iload 5, 2), (89, .goto 4, 3), (92, .iconst 0, 1), (93, .ireturn, 1)] : List (Nat × Instr × Nat)), decode cX11_addTold t.1 = .ok (t.2.1, t.2.2) := by decide +kernel
theorem hd_X11_doTold : mHd yX11_doTold 3 := ⟨by decide +kernel, by decide +kernel, by decide +kernel⟩
theorem DX11_doTold_0 : ∀ t ∈ ([(0, .iload_n 3, 1), (1, .iconst 1, 1), (2, .iadd, 1), (3, .aload_n 2, 1), (4, .getfield 284, 3), (7, .if_icmp .lt 5, 3), (10, .iconst 0, 1), (11, .ireturn, 1), (12, .aload_n 2, 1), (13, .iload_n 3, 1), (14, .iconst 1, 1), (15, .iadd, 1), (16, .invokevirtual 311, 3), (19, .lstore 4, 2), (21, .lload 4, 2), (23, .lconst 0, 1), (24, .lcmp, 1), (25, .ifCond .lt 31, 3), (28, .lload 4, 2), (30, .iload_n 1, 1), (31, .ifCond .eq 13, 3), (34, .aload_n 0, 1), (35, .getfield 19, 3), (38, .getfield 104, 3), (41, .goto 10, 3), (44, .aload_n 0, 1), (45, .getfield 19, 3), (48, .getfield 239, 3), (51, .i2l, 1), (52, .lcmp, 1), (53, .ifCond .lt 5, 3), (56, .iconst 0, 1), (57, .ireturn, 1), (58, .iload_n 1, 1), (59, .ifCond .eq 14, 3), (62, .aload_n 0, 1), (63, .lload 4, 2), (65, .l2i, 1), (66, .invokevirtual 264, 3), (69, .pop2, 1), (70, .goto 10, 3), (73, .aload_n 0, 1), (74, .lload 4, 2), (76, .l2i, 1), (77, .invokevirtual 270, 3), (80, .iconst 2, 1), (81, .ireturn, 1)] : List (Nat × Instr × Nat)), decode cX11_doTold t.1 = .ok (t.2.1, t.2.2) := by decide +kernel
theorem hd_X11_actAt : mHd yX11_actAt 2 := ⟨by decide +kernel, by decide +kernel, by decide +kernel⟩
theorem DX11_actAt_0 : ∀ t ∈ ([(0, .aload_n 1, 1), (1, .iload_n 2, 1), (2, .invokevirtual 311, 3), (5, .lstore_n 3, 1), (6, .lload_n 3, 1), (7, .ldc2_w 242, 3), (10, .lcmp, 1), (11, .ifCond .ne 10, 3), (14, .aload_n 0, 1), (15, .aload_n 1, 1), (16, .iload_n 2, 1), (17, .invokevirtual 369, 3), (20, .ireturn, 1), (21, .lload_n 3, 1), (22, .ldc2_w 372, 3), (25, .lcmp, 1), (26, .ifCond .eq 11, 3), (29, .lload_n 3, 1), (30, .ldc2_w 374, 3), (33, .lcmp, 1), (34, .ifCond .ne 23, 3), (37, .aload_n 0, 1), (38, .lload_n 3, 1), (39, .ldc2_w 372, 3), (42, .lcmp, 1), (43, .ifCond .ne 7, 3), (46, .iconst 1, 1), (47, .goto 4, 3), (50, .iconst 0, 1), (51, .aload_n 1, 1), (52, .iload_n 2, 1), (53, .invokevirtual 376, 3), (56, .ireturn, 1), (57, .lload_n 3, 1), (58, .ldc2_w 380, 3), (61, .lcmp, 1), (62, .ifCond .ne 9, 3), (65, .aload_n 0, 1), (66, .invokevirtual 267, 3), (69, .iconst 1, 1), (70, .ireturn, 1), (71, .lload_n 3, 1), (72, .ldc2_w 382, 3), (75, .lcmp, 1), (76, .ifCond .ne 23, 3), (79, .aload_n 0, 1), (80, .getfield 29, 3), (83, .aload_n 0, 1), (84, .getfield 19, 3), (87, .invokevirtual 273, 3), (90, .ifCond .eq 7, 3), (93, .iconst 1, 1), (94, .goto 4, 3), (97, .iconst 0, 1), (98, .ireturn, 1), (99, .lload_n 3, 1), (100, .ldc2_w 384, 3), (103, .lcmp, 1), (104, .ifCond .ne 23, 3), (107, .aload_n 0, 1)] : List (Nat × Instr × Nat)), decode cX11_actAt t.1 = .ok (t.2.1, t.2.2) := by decide +kernel
theorem DX11_actAt_1 : ∀ t ∈ ([(108, .getfield 29, 3), (111, .aload_n 0, 1), (112, .getfield 19, 3), (115, .invokevirtual 277, 3), (118, .ifCond .eq 7, 3), (121, .iconst 1, 1), (122, .goto 4, 3), (125, .iconst 0, 1), (126, .ireturn, 1), (127, .iconst 0, 1), (128, .ireturn, 1)] : List (Nat × Instr × Nat)), decode cX11_actAt t.1 = .ok (t.2.1, t.2.2) := by decide +kernel
theorem hd_X11_perform : mHd yX11_perform 1 := ⟨by decide +kernel, by decide +kernel, by decide +kernel⟩
theorem DX11_perform_0 : ∀ t ∈ ([(0, .aload_n 0, 1), (1, .iload_n 1, 1), (2, .invokevirtual 280, 3), (5, .astore_n 2, 1), (6, .iconst 0, 1), (7, .istore_n 3, 1), (8, .iconst 0, 1), (9, .istore 4, 2), (11, .iload 4, 2), (13, .bipush 40, 2), (15, .if_icmp .ge 38, 3), (18, .iload_n 3, 1), (19, .aload_n 2, 1), (20, .getfield 284, 3), (23, .if_icmp .ge 30, 3), (26, .aload_n 0, 1), (27, .aload_n 2, 1), (28, .iload_n 3, 1), (29, .invokevirtual 287, 3), (32, .istore 5, 2), (34, .iload 5, 2), (36, .ifCond .ne 6, 3), (39, .goto 14, 3), (42, .iload_n 3, 1), (43, .iload 5, 2), (45, .iadd, 1), (46, .istore_n 3, 1), (47, .iinc 4 1, 3), (50, .goto (-39), 3), (53, .iload_n 3, 1), (54, .ireturn, 1)] : List (Nat × Instr × Nat)), decode cX11_perform t.1 = .ok (t.2.1, t.2.2) := by decide +kernel
set_option maxHeartbeats 4000000 in
set_option maxRecDepth 100000 in
theorem w_X11_addTold_10 {p : Program} {l : Launch} {e : Env} {R : Room} {s : State} {m9 : MethodId} {args : Array Value} {below : List Frame} {meth : Method} {c : Code} {cells slots : Nat} {Q : State → Prop} {G : mG} {qt qn qd qh qy : Nat → Nat} {ow : Nat → Nat} {m : mM} {w : Wd} {bw aw : List Wd} {S : Nat → Prop} {sty : OS} {so : Nat} {row : List Int64} (hC : Core G qt qn qd qh ow m w bw aw S) (hy : At G ow m LX7 qy sty) (ht : TrC sty so row) (X : mX G p m9 c cX11_addTold 9 s args RX11) (hR : 2 ≤ R.frames ∧ 60 ≤ R.locals ∧ cells ≤ R.cells ∧ slots ≤ R.slots) {k : Nat} :
    ∀ (f i : Nat) (set : Int64), i + f = max row.length i → k < i → i ≤ 41 → (∀ (s1 : Int64) (e9 : Nat), told row w.1 f i set = some (s1, e9) → ∀ (H : Heap) (locs : List Loc) (ls : Array Slot), mH G m s.heap H locs → lv_has ls 9 [(0, .ref (qt 10)), (3, .long s1), (5, .int (nI (e9 - k)))] → W p l e R s m9 args below meth c H locs cells slots Q (F0 m9 71 ls [])) → (told row w.1 f i set = none → ∀ (H : Heap) (locs : List Loc) (ls : Array Slot), mH G m s.heap H locs → lv_has ls 9 [] → W p l e R s m9 args below meth c H locs cells slots Q (F0 m9 52 ls [])) → ∀ (H : Heap) (locs : List Loc) (ls : Array Slot), mH G m s.heap H locs → lv_has ls 9 [(0, .ref (qt 10)), (1, .ref (qy 3)), (3, .long set), (5, .int (nI (i - k))), (6, .int (nI i))] → W p l e R s m9 args below meth c H locs cells slots Q (F0 m9 10 ls []) := by
  have hr40 := ht.2.2.2.1
  obtain ⟨stt, stn, std, fb, fa, bs, as, hT, hn, hw, hd, hS, hb, ha, hx, hk, hSS⟩ := id hC
  have hwn := hw.1.2.2.1
  intro f
  induction f with
  | zero =>
    intro i set hif hki hi41 K1 K0 H locs ls hH hl
    refine lv_iload X.x X.b (dk DX11_addTold_0 8 rfl) (lv_at hl 4 rfl) ?_
    refine lv_aload_n X.x X.b (dk DX11_addTold_0 9 rfl) rfl (lv_at hl 1 rfl) ?_
    refine ag_getIN OX7 X hy hH 1 (by decide) rfl kFN_X11_284 (dk DX11_addTold_0 10 rfl) ?_
    rw [ht.2.2.1]
    refine lv_icmp_ge (tgt := 71) X.x X.b (dk DX11_addTold_0 11 rfl) (by decide) (fun _ => ?_) (fun z => absurd (show nI row.length ≤ nI i from nI_le (by omega) (by omega)) z)
    exact K1 set i rfl H locs ls hH (lv_sub hl [0, 2, 3] rfl)
  | succ f ih9 =>
    intro i set hif hki hi41 K1 K0 H locs ls hH hl
    refine lv_iload X.x X.b (dk DX11_addTold_0 8 rfl) (lv_at hl 4 rfl) ?_
    refine lv_aload_n X.x X.b (dk DX11_addTold_0 9 rfl) rfl (lv_at hl 1 rfl) ?_
    refine ag_getIN OX7 X hy hH 1 (by decide) rfl kFN_X11_284 (dk DX11_addTold_0 10 rfl) ?_
    rw [ht.2.2.1]
    refine lv_icmp_ge (tgt := 71) X.x X.b (dk DX11_addTold_0 11 rfl) (by decide) (fun c => ?_) (fun c => ?_)
    · have hi2 : row.length ≤ i := by
        rcases Nat.lt_or_ge i row.length with h | h
        · exact absurd c (nI_ge h (by omega))
        · exact h
      have hf0 : False := by omega
      exact hf0.elim
    · have hi2 : i < row.length := by
        rcases Nat.lt_or_ge i row.length with h | h
        · exact h
        · exact absurd (nI_le h (by omega)) c
      refine lv_aload_n X.x X.b (dk DX11_addTold_0 12 rfl) rfl (lv_at hl 1 rfl) ?_
      refine lv_iload X.x X.b (dk DX11_addTold_0 13 rfl) (lv_at hl 4 rfl) ?_
      refine mr_cl0 hH ⟨rfl, rfl⟩ (mr_runV (As := [.int (nI i)]) (rest := []) X hH (at1 hy (c_X7_cellAt hy.1 (cellAt_7 ht (i := i) (by omega)))) hy.root OX7.1 kM_X11_311 kI_X7_cellAt kS_X7_cellAt kN_X7 kC_X7_cellAt hd_X7_cellAt ⟨Nat.le_trans (Nat.le_of_ble_eq_true rfl) hR.1, Nat.le_trans (Nat.le_of_ble_eq_true rfl) hR.2.1⟩ rfl hl.1 (Nat.le_of_ble_eq_true rfl) (dk DX11_addTold_0 14 rfl) ⟨hR.2.2.1, hR.2.2.2⟩) (fun r h1 H locs hp hH => ?_)
      obtain ⟨hr1, hp⟩ := hp
      rw [hr1]
      rw [hp, hy.eq] at hH
      refine lv_lconst (v := 0) X.x X.b (dk DX11_addTold_0 15 rfl) (by decide) ?_
      refine W.lcmp X.x X.b (dk DX11_addTold_0 16 rfl) ?_
      refine lv_if_lt (tgt := 71) X.x X.b (dk DX11_addTold_0 17 rfl) (by decide) (fun c2 => ?_) (fun c2 => ?_)
      · rw [lg_cmp_lt] at c2
        refine K1 set i ?_ H locs ls hH (lv_sub hl [0, 2, 3] rfl)
        unfold told
        rw [if_pos c2]
      · rw [lg_cmp_lt] at c2
        refine lv_aload_n X.x X.b (dk DX11_addTold_0 18 rfl) rfl (lv_at hl 1 rfl) ?_
        refine lv_iload X.x X.b (dk DX11_addTold_0 19 rfl) (lv_at hl 4 rfl) ?_
        refine mr_cl0 hH ⟨rfl, rfl⟩ (mr_runV (As := [.int (nI i)]) (rest := []) X hH (at1 hy (c_X7_cellAt hy.1 (cellAt_7 ht (i := i) (by omega)))) hy.root OX7.1 kM_X11_311 kI_X7_cellAt kS_X7_cellAt kN_X7 kC_X7_cellAt hd_X7_cellAt ⟨Nat.le_trans (Nat.le_of_ble_eq_true rfl) hR.1, Nat.le_trans (Nat.le_of_ble_eq_true rfl) hR.2.1⟩ rfl hl.1 (Nat.le_of_ble_eq_true rfl) (dk DX11_addTold_0 20 rfl) ⟨hR.2.2.1, hR.2.2.2⟩) (fun r h1 H locs hp hH => ?_)
        obtain ⟨hr1, hp⟩ := hp
        rw [hr1]
        rw [hp, hy.eq] at hH
        refine lv_lstore (lv' := [(7, .long (wl row i)), (0, .ref (qt 10)), (1, .ref (qy 3)), (3, .long set), (5, .int (nI (i - k))), (6, .int (nI i))]) X.x X.b (dk DX11_addTold_0 21 rfl) hl (by decide) rfl (fun ls hl => ?_)
        replace hl : lv_has ls 9 [(0, .ref (qt 10)), (1, .ref (qy 3)), (3, .long set), (5, .int (nI (i - k))), (6, .int (nI i)), (7, .long (wl row i))] := lv_sub hl [1, 2, 3, 4, 5, 0] rfl
        refine lv_lload X.x X.b (dk DX11_addTold_0 22 rfl) (lv_at hl 5 rfl) ?_
        refine lv_aload_n X.x X.b (dk DX11_addTold_0 23 rfl) rfl (lv_at hl 0 rfl) ?_
        refine ag_getR (t := 4) OX11 X hT hH 1 (by decide) rfl kF_X11_19 (dk DX11_addTold_0 24 rfl) ?_
        rw [hk.1]
        refine ag_getIN OX10 X hn hH 0 (by decide) rfl kFN_X11_239 (dk DX11_addTold_0 25 rfl) ?_
        rw [hw.1.1]
        refine lv_i2l X.x X.b (dk DX11_addTold_0 26 rfl) rfl ?_
        refine W.lcmp X.x X.b (dk DX11_addTold_0 27 rfl) ?_
        rw [nI_l (by omega)]
        refine lv_if_lt (tgt := 54) X.x X.b (dk DX11_addTold_0 28 rfl) (by decide) (fun c3 => ?_) (fun c3 => ?_)
        · rw [lg_cmp_lt] at c3
          obtain ⟨j, hj, hjv, hjn⟩ := lN_of_lt hwn c2 c3
          refine lv_lload_n X.x X.b (dk DX11_addTold_0 31 rfl) rfl (lv_at hl 2 rfl) ?_
          refine lv_lconst (v := 1) X.x X.b (dk DX11_addTold_0 32 rfl) (by decide) ?_
          refine lv_lload X.x X.b (dk DX11_addTold_0 33 rfl) (lv_at hl 5 rfl) ?_
          refine lv_l2i X.x X.b (dk DX11_addTold_0 34 rfl) rfl ?_
          refine lv_lshl X.x X.b (dk DX11_addTold_0 35 rfl) rfl ?_
          refine lv_lor X.x X.b (dk DX11_addTold_0 36 rfl) ?_
          rw [show (wl row i).toInt32 = nI j by rw [hjv, lN_i], sh1 (by omega)]
          refine lv_lstore_n (lv' := [(3, .long (set ||| bit1 j)), (0, .ref (qt 10)), (1, .ref (qy 3)), (5, .int (nI (i - k))), (6, .int (nI i)), (7, .long (wl row i))]) X.x X.b (dk DX11_addTold_0 37 rfl) rfl hl (by decide) rfl (fun ls hl => ?_)
          replace hl : lv_has ls 9 [(0, .ref (qt 10)), (1, .ref (qy 3)), (3, .long (set ||| bit1 j)), (5, .int (nI (i - k))), (6, .int (nI i))] := lv_sub hl [1, 2, 0, 3, 4] rfl
          refine lv_iinc (v := nI (i + 1 - k)) (lv' := [(5, .int (nI (i + 1 - k))), (0, .ref (qt 10)), (1, .ref (qy 3)), (3, .long (set ||| bit1 j)), (6, .int (nI i))]) X.x X.b (dk DX11_addTold_0 38 rfl) hl (k := 3) rfl (by rw [show i + 1 - k = (i - k) + 1 by omega, ← nI_1]; rfl) (by decide) rfl (fun ls hl => ?_)
          replace hl : lv_has ls 9 [(0, .ref (qt 10)), (1, .ref (qy 3)), (3, .long (set ||| bit1 j)), (5, .int (nI (i + 1 - k))), (6, .int (nI i))] := lv_sub hl [1, 2, 3, 0, 4] rfl
          refine lv_iinc (v := nI (i + 1)) (lv' := [(6, .int (nI (i + 1))), (0, .ref (qt 10)), (1, .ref (qy 3)), (3, .long (set ||| bit1 j)), (5, .int (nI (i + 1 - k)))]) X.x X.b (dk DX11_addTold_0 39 rfl) hl (k := 4) rfl (by rw [← nI_1]; rfl) (by decide) rfl (fun ls hl => ?_)
          replace hl : lv_has ls 9 [(0, .ref (qt 10)), (1, .ref (qy 3)), (3, .long (set ||| bit1 j)), (5, .int (nI (i + 1 - k))), (6, .int (nI (i + 1)))] := lv_sub hl [1, 2, 3, 4, 0] rfl
          refine lv_goto (tgt := 10) X.x X.b (dk DX11_addTold_0 40 rfl) (by decide) ?_
          refine ih9 (i + 1) (set ||| bit1 j) (by omega) (by omega) (by omega) (fun s1 e h => K1 s1 e ?_) (fun h => K0 ?_) H locs ls hH hl
          · unfold told
            rw [if_neg c2, if_pos c3, hjn]
            exact h
          · unfold told
            rw [if_neg c2, if_pos c3, hjn]
            exact h
        · rw [lg_cmp_lt] at c3
          refine K0 ?_ H locs ls hH (lv_sub hl [] rfl)
          unfold told
          rw [if_neg c2, if_neg c3]
/-- what an act leaves -/
def APost (G : mG) (qt qn qd qh : Nat → Nat) (ow : Nat → Nat) (m : mM) (S : Nat → Prop) (s0 : Wst) (x : Nat × Wst) (r : Int32) (m' : mM) : Prop := r = nI x.1 ∧ ((x.2 = s0 ∧ m' = m) ∨ CoreP G qt qn qd qh ow m S m' x.2.1 x.2.2.1 x.2.2.2)
theorem Core.notS {G : mG} {qt qn qd qh : Nat → Nat} {ow : Nat → Nat} {m : mM} {w : Wd} {bw aw : List Wd} {S : Nat → Prop} (hC : Core G qt qn qd qh ow m w bw aw S) {L : LY} {q : Nat → Nat} {st : OS} (hA : At G ow m L q st) (h10 : L.1 ≠ LX10.1) (h1 : L.1 ≠ LX1.1) : ¬ S (q L.2.1) := by
  obtain ⟨stt, stn, std, fb, fa, bs, as, hT, hn, hw, hd, hS, hb, ha, hx, hk, rfl⟩ := hC
  exact fun z => z.elim (HR.neAt hS hA h10 h1) (fun z => z.elim (hA.ne hn h10) (hA.ne hd h10))
theorem APost.st {G : mG} {qt qn qd qh : Nat → Nat} {ow : Nat → Nat} {m : mM} {S : Nat → Prop} {s0 : Wst} {x : Nat × Wst} {r : Int32} {m' : mM} (hC : Core G qt qn qd qh ow m s0.1 s0.2.1 s0.2.2 S) (h : APost G qt qn qd qh ow m S s0 x r m') : CoreP G qt qn qd qh ow m S m' x.2.1 x.2.2.1 x.2.2.2 := by
  rcases h.2 with ⟨h1, h2⟩ | h2
  · rw [h1, h2]; exact CoreP.rf hC
  · exact h2
abbrev rm_X11_addTold : Room := { frames := 7, cells := 4, slots := 197, locals := 160 }
set_option maxHeartbeats 4000000 in
set_option maxRecDepth 100000 in
theorem c_X11_addTold {l : Launch} {G : mG} {qt qn qd qh : Nat → Nat} {ow : Nat → Nat} {m : mM} {w : Wd} {bw aw : List Wd} {S : Nat → Prop} (hC : Core G qt qn qd qh ow m w bw aw S) {qy : Nat → Nat} {sty : OS} {so : Nat} {row : List Int64} (hy : At G ow m LX7 qy sty) (ht : TrC sty so row) {k : Nat} (hk9 : k < row.length) (hv1 : wl row k = -1) : cQ l G yX11_addTold cX11_addTold 9 (some FieldType.int) rm_X11_addTold [.ref (qt 10), .ref (qy 3), .int (nI k)] m (mQi G (APost G qt qn qd qh ow m S (w, bw, aw) (actM row k (w, bw, aw)))) := by
  refine mp_of (by decide +kernel) (Nat.le_of_ble_eq_true rfl) ?_
  intro p e s m9 below meth c X hr hlk hH hname ls hl
  replace hl : lv_has ls 9 [(0, .ref (qt 10)), (1, .ref (qy 3)), (2, .int (nI k))] := hl
  obtain ⟨stt, stn, std, fb, fa, bs, as, hT, hn, hw, hd, hS, hb, ha, hx, hk, hSS⟩ := id hC
  have hr40 := ht.2.2.2.1
  refine lv_lconst (v := 0) X.x X.b (dk DX11_addTold_0 0 rfl) (by decide) ?_
  refine lv_lstore_n (lv' := [(3, .long 0), (0, .ref (qt 10)), (1, .ref (qy 3)), (2, .int (nI k))]) X.x X.b (dk DX11_addTold_0 1 rfl) rfl hl (by decide) rfl (fun ls hl => ?_)
  replace hl : lv_has ls 9 [(0, .ref (qt 10)), (1, .ref (qy 3)), (2, .int (nI k)), (3, .long 0)] := lv_sub hl [1, 2, 3, 0] rfl
  refine lv_iconst (v := 1) X.x X.b (dk DX11_addTold_0 2 rfl) (by decide) ?_
  refine lv_istore (lv' := [(5, .int 1), (0, .ref (qt 10)), (1, .ref (qy 3)), (2, .int (nI k)), (3, .long 0)]) X.x X.b (dk DX11_addTold_0 3 rfl) hl (by decide) rfl (fun ls hl => ?_)
  replace hl : lv_has ls 9 [(0, .ref (qt 10)), (1, .ref (qy 3)), (2, .int (nI k)), (3, .long 0), (5, .int 1)] := lv_sub hl [1, 2, 3, 4, 0] rfl
  refine lv_iload_n X.x X.b (dk DX11_addTold_0 4 rfl) rfl (lv_at hl 2 rfl) ?_
  refine lv_iconst (v := 1) X.x X.b (dk DX11_addTold_0 5 rfl) (by decide) ?_
  refine lv_iadd X.x X.b (dk DX11_addTold_0 6 rfl) ?_
  rw [show nI k + (1 : Int32) = nI (k + 1) by rw [← nI_1]]
  refine lv_istore (lv' := [(6, .int (nI (k + 1))), (0, .ref (qt 10)), (1, .ref (qy 3)), (2, .int (nI k)), (3, .long 0), (5, .int 1)]) X.x X.b (dk DX11_addTold_0 7 rfl) hl (by decide) rfl (fun ls hl => ?_)
  replace hl : lv_has ls 9 [(0, .ref (qt 10)), (1, .ref (qy 3)), (3, .long 0), (5, .int 1), (6, .int (nI (k + 1)))] := lv_sub hl [1, 2, 4, 5, 0] rfl
  have hu : (1 : Int32) = nI (k + 1 - k) := by rw [show k + 1 - k = 1 by omega]; rfl
  refine w_X11_addTold_10 hC hy ht X (k := k) ⟨by decide, by decide, by decide, by decide⟩ (row.length - (k + 1)) (k + 1) 0 (by omega) (by omega) (by omega) (fun s1 e9 he H locs ls hH hl => ?_) (fun he H locs ls hH hl => ?_) _ _ _ hH (by rw [← hu]; exact hl)
  · refine lv_lload_n X.x X.b (dk DX11_addTold_0 41 rfl) rfl (lv_at hl 1 rfl) ?_
    refine mr_ci0 hH ⟨rfl, rfl⟩ (mr_runS (As := [.long s1]) (rest := []) X hH (c_J13_bitCount_95d88 (bitCount_13 s1)) kM_X11_145 kT_J13_bitCount_95d88 kN_J13 kC_J13_bitCount_95d88 hd_J13_bitCount_95d88 ⟨Nat.le_of_ble_eq_true rfl, Nat.le_of_ble_eq_true rfl⟩ rfl hl.1 (Nat.le_of_ble_eq_true rfl) (dk DX11_addTold_0 42 rfl) ⟨Nat.le_of_ble_eq_true rfl, Nat.le_of_ble_eq_true rfl⟩) (fun r h1 H locs hp hH => ?_)
    obtain ⟨hr1, hp⟩ := hp
    rw [hr1]
    rw [hp] at hH
    refine lv_iconst (v := 2) X.x X.b (dk DX11_addTold_0 43 rfl) (by decide) ?_
    refine lv_icmp_lt (tgt := 92) X.x X.b (dk DX11_addTold_0 44 rfl) (by decide) (fun c => ?_) (fun c => ?_)
    · have h2 : pcn s1 < 2 := by
        rcases Nat.lt_or_ge (pcn s1) 2 with z | z
        · exact z
        · exact absurd c (nI_nlt (b := 2) (a := pcn s1) z (by have := pcn_le s1; omega))
      have hA : actM row k (w, bw, aw) = (0, (w, bw, aw)) := by
        unfold actM
        dsimp only
        rw [if_pos hv1, he]
        dsimp only
        rw [if_pos h2]
      refine lv_iconst (v := 0) X.x X.b (dk DX11_addTold_0 51 rfl) (by decide) ?_
      exact W.widen (k := (rm_X11_addTold).cells) (n := (rm_X11_addTold).slots) (Nat.le_of_ble_eq_true rfl) (Nat.le_of_ble_eq_true rfl) (mr_iret X hr hlk hH (post := APost G qt qn qd qh ow m S (w, bw, aw) (actM row k (w, bw, aw))) (by rw [hA]; exact ⟨rfl, Or.inl ⟨rfl, rfl⟩⟩) (dk DX11_addTold_0 52 rfl))
    · have h2 : ¬ pcn s1 < 2 := fun z => c (nI_lt (a := pcn s1) (b := 2) z (by decide))
      refine lv_aload_n X.x X.b (dk DX11_addTold_0 45 rfl) rfl (lv_at hl 0 rfl) ?_
      refine lv_lload_n X.x X.b (dk DX11_addTold_0 46 rfl) rfl (lv_at hl 1 rfl) ?_
      refine mr_ci hH (mr_runV (As := [.long s1]) (rest := []) X hH (core_addLine hC s1) hT.root OX11.1 kM_X11_260 kI_X11_addLine kS_X11_addLine kN_X11 kC_X11_addLine hd_X11_addLine ⟨Nat.le_of_ble_eq_true rfl, Nat.le_of_ble_eq_true rfl⟩ rfl hl.1 (Nat.le_of_ble_eq_true rfl) (dk DX11_addTold_0 47 rfl) ⟨Nat.le_of_ble_eq_true rfl, Nat.le_of_ble_eq_true rfl⟩) (fun r m1 H locs hp hH => ?_)
      rcases hp with ⟨h64, hr1, hm1⟩ | ⟨h64, hr1, hP⟩
      · have hA : actM row k (w, bw, aw) = (0, (w, bw, aw)) := by
          unfold actM
          dsimp only
          rw [if_pos hv1, he]
          dsimp only
          rw [if_neg h2, if_pos h64]
        rw [hr1]
        rw [hm1] at hH
        refine lv_if_eq (tgt := 92) X.x X.b (dk DX11_addTold_0 48 rfl) (by decide) (fun _ => ?_) (fun z => absurd (show (0 : Int32) = 0 from rfl) z)
        refine lv_iconst (v := 0) X.x X.b (dk DX11_addTold_0 51 rfl) (by decide) ?_
        exact W.widen (k := (rm_X11_addTold).cells) (n := (rm_X11_addTold).slots) (Nat.le_of_ble_eq_true rfl) (Nat.le_of_ble_eq_true rfl) (mr_iret X hr hlk hH (post := APost G qt qn qd qh ow m S (w, bw, aw) (actM row k (w, bw, aw))) (by rw [hA]; exact ⟨rfl, Or.inl ⟨rfl, rfl⟩⟩) (dk DX11_addTold_0 52 rfl))
      · have hA : actM row k (w, bw, aw) = (e9 - k, ((w.1, w.2 ++ [s1]), pushW bw w, [])) := by
          unfold actM
          dsimp only
          rw [if_pos hv1, he]
          dsimp only
          rw [if_neg h2, if_neg (by omega)]
        rw [hr1]
        refine lv_if_eq (tgt := 92) X.x X.b (dk DX11_addTold_0 48 rfl) (by decide) (fun z => absurd z (show ¬ (1 : Int32) = 0 by decide)) (fun _ => ?_)
        refine lv_iload X.x X.b (dk DX11_addTold_0 49 rfl) (lv_at hl 2 rfl) ?_
        refine lv_goto (tgt := 93) X.x X.b (dk DX11_addTold_0 50 rfl) (by decide) ?_
        exact W.widen (k := (rm_X11_addTold).cells) (n := (rm_X11_addTold).slots) (Nat.le_of_ble_eq_true rfl) (Nat.le_of_ble_eq_true rfl) (mr_iret X hr hlk hH (post := APost G qt qn qd qh ow m S (w, bw, aw) (actM row k (w, bw, aw))) (by rw [hA]; exact ⟨rfl, Or.inr hP⟩) (dk DX11_addTold_0 52 rfl))
  · have hA : actM row k (w, bw, aw) = (0, (w, bw, aw)) := by
      unfold actM
      dsimp only
      rw [if_pos hv1, he]
    refine lv_iconst (v := 0) X.x X.b (dk DX11_addTold_0 29 rfl) (by decide) ?_
    exact W.widen (k := (rm_X11_addTold).cells) (n := (rm_X11_addTold).slots) (Nat.le_of_ble_eq_true rfl) (Nat.le_of_ble_eq_true rfl) (mr_iret X hr hlk hH (post := APost G qt qn qd qh ow m S (w, bw, aw) (actM row k (w, bw, aw))) (by rw [hA]; exact ⟨rfl, Or.inl ⟨rfl, rfl⟩⟩) (dk DX11_addTold_0 30 rfl))
abbrev rm_X11_doTold : Room := { frames := 7, cells := 4, slots := 197, locals := 160 }
set_option maxHeartbeats 4000000 in
set_option maxRecDepth 100000 in
theorem c_X11_doTold_d {l : Launch} {G : mG} {qt qn qd qh : Nat → Nat} {ow : Nat → Nat} {m : mM} {w : Wd} {bw aw : List Wd} {S : Nat → Prop} (hC : Core G qt qn qd qh ow m w bw aw S) {qy : Nat → Nat} {sty : OS} {so : Nat} {row : List Int64} (hy : At G ow m LX7 qy sty) (ht : TrC sty so row) {k : Nat} (hk9 : k < row.length) (hv1 : wl row k = -2) : cQ l G yX11_doTold cX11_doTold 6 (some FieldType.int) rm_X11_doTold [.ref (qt 10), .int 1, .ref (qy 3), .int (nI k)] m (mQi G (APost G qt qn qd qh ow m S (w, bw, aw) (actM row k (w, bw, aw)))) := by
  refine mp_of (by decide +kernel) (Nat.le_of_ble_eq_true rfl) ?_
  intro p e s m9 below meth c X hr hlk hH hname ls hl
  replace hl : lv_has ls 6 [(0, .ref (qt 10)), (1, .int 1), (2, .ref (qy 3)), (3, .int (nI k))] := hl
  obtain ⟨stt, stn, std, fb, fa, bs, as, hT, hn, hw, hd, hS, hb, ha, hx, hk, hSS⟩ := id hC
  have hr40 := ht.2.2.2.1
  have hwn := hw.1.2.2.1
  have hwl := hw.1.2.2.2.1
  refine lv_iload_n X.x X.b (dk DX11_doTold_0 0 rfl) rfl (lv_at hl 3 rfl) ?_
  refine lv_iconst (v := 1) X.x X.b (dk DX11_doTold_0 1 rfl) (by decide) ?_
  refine lv_iadd X.x X.b (dk DX11_doTold_0 2 rfl) ?_
  rw [show nI k + (1 : Int32) = nI (k + 1) by rw [← nI_1]]
  refine lv_aload_n X.x X.b (dk DX11_doTold_0 3 rfl) rfl (lv_at hl 2 rfl) ?_
  refine ag_getIN OX7 X hy hH 1 (by decide) rfl kFN_X11_284 (dk DX11_doTold_0 4 rfl) ?_
  rw [ht.2.2.1]
  refine lv_icmp_lt (tgt := 12) X.x X.b (dk DX11_doTold_0 5 rfl) (by decide) (fun c => ?_) (fun c => ?_)
  · have hi2 : k + 1 < row.length := by
      rcases Nat.lt_or_ge (k + 1) row.length with h | h
      · exact h
      · exact absurd c (nI_nlt h (by omega))
    refine lv_aload_n X.x X.b (dk DX11_doTold_0 8 rfl) rfl (lv_at hl 2 rfl) ?_
    refine lv_iload_n X.x X.b (dk DX11_doTold_0 9 rfl) rfl (lv_at hl 3 rfl) ?_
    refine lv_iconst (v := 1) X.x X.b (dk DX11_doTold_0 10 rfl) (by decide) ?_
    refine lv_iadd X.x X.b (dk DX11_doTold_0 11 rfl) ?_
    rw [show nI k + (1 : Int32) = nI (k + 1) by rw [← nI_1]]
    refine mr_cl0 hH ⟨rfl, rfl⟩ (mr_runV (As := [.int (nI (k + 1))]) (rest := []) X hH (at1 hy (c_X7_cellAt hy.1 (cellAt_7 ht (i := k + 1) (by omega)))) hy.root OX7.1 kM_X11_311 kI_X7_cellAt kS_X7_cellAt kN_X7 kC_X7_cellAt hd_X7_cellAt ⟨Nat.le_of_ble_eq_true rfl, Nat.le_of_ble_eq_true rfl⟩ rfl hl.1 (Nat.le_of_ble_eq_true rfl) (dk DX11_doTold_0 12 rfl) ⟨Nat.le_of_ble_eq_true rfl, Nat.le_of_ble_eq_true rfl⟩) (fun r h1 H locs hp hH => ?_)
    obtain ⟨hr1, hp⟩ := hp
    rw [hr1]
    rw [hp, hy.eq] at hH
    refine lv_lstore (lv' := [(4, .long (wl row (k + 1))), (0, .ref (qt 10)), (1, .int 1), (2, .ref (qy 3)), (3, .int (nI k))]) X.x X.b (dk DX11_doTold_0 13 rfl) hl (by decide) rfl (fun ls hl => ?_)
    replace hl : lv_has ls 6 [(0, .ref (qt 10)), (1, .int 1), (4, .long (wl row (k + 1)))] := lv_sub hl [1, 2, 0] rfl
    refine lv_lload X.x X.b (dk DX11_doTold_0 14 rfl) (lv_at hl 2 rfl) ?_
    refine lv_lconst (v := 0) X.x X.b (dk DX11_doTold_0 15 rfl) (by decide) ?_
    refine W.lcmp X.x X.b (dk DX11_doTold_0 16 rfl) ?_
    refine lv_if_lt (tgt := 56) X.x X.b (dk DX11_doTold_0 17 rfl) (by decide) (fun c2 => ?_) (fun c2 => ?_)
    · rw [lg_cmp_lt] at c2
      have hA : actM row k (w, bw, aw) = (0, (w, bw, aw)) := by
        unfold actM
        dsimp only
        rw [if_neg (by rw [hv1]; decide), if_pos hv1]
        rw [if_neg (fun z => absurd c2 z.2.1)]
      refine lv_iconst (v := 0) X.x X.b (dk DX11_doTold_0 31 rfl) (by decide) ?_
      exact W.widen (k := (rm_X11_doTold).cells) (n := (rm_X11_doTold).slots) (Nat.le_of_ble_eq_true rfl) (Nat.le_of_ble_eq_true rfl) (mr_iret X hr hlk hH (post := APost G qt qn qd qh ow m S (w, bw, aw) (actM row k (w, bw, aw))) (by rw [hA]; exact ⟨rfl, Or.inl ⟨rfl, rfl⟩⟩) (dk DX11_doTold_0 32 rfl))
    · rw [lg_cmp_lt] at c2
      refine lv_lload X.x X.b (dk DX11_doTold_0 18 rfl) (lv_at hl 2 rfl) ?_
      refine lv_iload_n X.x X.b (dk DX11_doTold_0 19 rfl) rfl (lv_at hl 1 rfl) ?_
      refine lv_if_eq (tgt := 44) X.x X.b (dk DX11_doTold_0 20 rfl) (by decide) (fun z => absurd z (show ¬ (1 : Int32) = 0 by decide)) (fun _ => ?_)
      refine lv_aload_n X.x X.b (dk DX11_doTold_0 21 rfl) rfl (lv_at hl 0 rfl) ?_
      refine ag_getR (t := 4) OX11 X hT hH 1 (by decide) rfl kF_X11_19 (dk DX11_doTold_0 22 rfl) ?_
      rw [hk.1]
      refine ag_getIN OX10 X hn hH 1 (by decide) rfl kFN_X11_104 (dk DX11_doTold_0 23 rfl) ?_
      rw [hw.1.2.1]
      refine lv_goto (tgt := 51) X.x X.b (dk DX11_doTold_0 24 rfl) (by decide) ?_
      refine lv_i2l X.x X.b (dk DX11_doTold_0 28 rfl) rfl ?_
      refine W.lcmp X.x X.b (dk DX11_doTold_0 29 rfl) ?_
      rw [nI_l (by omega)]
      refine lv_if_lt (tgt := 58) X.x X.b (dk DX11_doTold_0 30 rfl) (by decide) (fun c3 => ?_) (fun c3 => ?_)
      · rw [lg_cmp_lt] at c3
        obtain ⟨j, hj, hjv, hjn⟩ := lN_of_lt hwl c2 c3
        have hA : actM row k (w, bw, aw) = (2, ((w.1, w.2.eraseIdx j), pushW bw w, [])) := by
          unfold actM
          dsimp only
          rw [if_neg (by rw [hv1]; decide), if_pos hv1]
          rw [if_pos ⟨hi2, c2, c3⟩, hjn]
        refine lv_iload_n X.x X.b (dk DX11_doTold_0 33 rfl) rfl (lv_at hl 1 rfl) ?_
        refine lv_if_eq (tgt := 73) X.x X.b (dk DX11_doTold_0 34 rfl) (by decide) (fun z => absurd z (show ¬ (1 : Int32) = 0 by decide)) (fun _ => ?_)
        refine lv_aload_n X.x X.b (dk DX11_doTold_0 35 rfl) rfl (lv_at hl 0 rfl) ?_
        refine lv_lload X.x X.b (dk DX11_doTold_0 36 rfl) (lv_at hl 2 rfl) ?_
        refine lv_l2i X.x X.b (dk DX11_doTold_0 37 rfl) rfl ?_
        rw [show (wl row (k + 1)).toInt32 = nI j by rw [hjv, lN_i]]
        refine mr_cl hH (mr_runV (As := [.int (nI j)]) (rest := []) X hH (core_dropLine hC hj) hT.root OX11.1 kM_X11_264 kI_X11_dropLine kS_X11_dropLine kN_X11 kC_X11_dropLine hd_X11_dropLine ⟨Nat.le_of_ble_eq_true rfl, Nat.le_of_ble_eq_true rfl⟩ rfl hl.1 (Nat.le_of_ble_eq_true rfl) (dk DX11_doTold_0 38 rfl) ⟨Nat.le_of_ble_eq_true rfl, Nat.le_of_ble_eq_true rfl⟩) (fun r m1 H locs hp hH => ?_)
        replace hp := hp.2
        refine lv_pop2_2 X.x X.b (dk DX11_doTold_0 39 rfl) rfl ?_
        refine lv_goto (tgt := 80) X.x X.b (dk DX11_doTold_0 40 rfl) (by decide) ?_
        refine lv_iconst (v := 2) X.x X.b (dk DX11_doTold_0 45 rfl) (by decide) ?_
        exact W.widen (k := (rm_X11_doTold).cells) (n := (rm_X11_doTold).slots) (Nat.le_of_ble_eq_true rfl) (Nat.le_of_ble_eq_true rfl) (mr_iret X hr hlk hH (post := APost G qt qn qd qh ow m S (w, bw, aw) (actM row k (w, bw, aw))) (by rw [hA]; exact ⟨rfl, Or.inr hp⟩) (dk DX11_doTold_0 46 rfl))
      · rw [lg_cmp_lt] at c3
        have hA : actM row k (w, bw, aw) = (0, (w, bw, aw)) := by
          unfold actM
          dsimp only
          rw [if_neg (by rw [hv1]; decide), if_pos hv1]
          rw [if_neg (fun z => c3 z.2.2)]
        refine lv_iconst (v := 0) X.x X.b (dk DX11_doTold_0 31 rfl) (by decide) ?_
        exact W.widen (k := (rm_X11_doTold).cells) (n := (rm_X11_doTold).slots) (Nat.le_of_ble_eq_true rfl) (Nat.le_of_ble_eq_true rfl) (mr_iret X hr hlk hH (post := APost G qt qn qd qh ow m S (w, bw, aw) (actM row k (w, bw, aw))) (by rw [hA]; exact ⟨rfl, Or.inl ⟨rfl, rfl⟩⟩) (dk DX11_doTold_0 32 rfl))
  · have hi2 : row.length ≤ k + 1 := by
      rcases Nat.lt_or_ge (k + 1) row.length with h | h
      · exact absurd (nI_lt h (by omega)) c
      · exact h
    have hA : actM row k (w, bw, aw) = (0, (w, bw, aw)) := by
      unfold actM
      dsimp only
      rw [if_neg (by rw [hv1]; decide), if_pos hv1]
      rw [if_neg (fun z => absurd z.1 (by omega))]
    refine lv_iconst (v := 0) X.x X.b (dk DX11_doTold_0 6 rfl) (by decide) ?_
    exact W.widen (k := (rm_X11_doTold).cells) (n := (rm_X11_doTold).slots) (Nat.le_of_ble_eq_true rfl) (Nat.le_of_ble_eq_true rfl) (mr_iret X hr hlk hH (post := APost G qt qn qd qh ow m S (w, bw, aw) (actM row k (w, bw, aw))) (by rw [hA]; exact ⟨rfl, Or.inl ⟨rfl, rfl⟩⟩) (dk DX11_doTold_0 7 rfl))
set_option maxHeartbeats 4000000 in
set_option maxRecDepth 100000 in
theorem c_X11_doTold_l {l : Launch} {G : mG} {qt qn qd qh : Nat → Nat} {ow : Nat → Nat} {m : mM} {w : Wd} {bw aw : List Wd} {S : Nat → Prop} (hC : Core G qt qn qd qh ow m w bw aw S) {qy : Nat → Nat} {sty : OS} {so : Nat} {row : List Int64} (hy : At G ow m LX7 qy sty) (ht : TrC sty so row) {k : Nat} (hk9 : k < row.length) (hv1 : wl row k = -4) : cQ l G yX11_doTold cX11_doTold 6 (some FieldType.int) rm_X11_doTold [.ref (qt 10), .int 0, .ref (qy 3), .int (nI k)] m (mQi G (APost G qt qn qd qh ow m S (w, bw, aw) (actM row k (w, bw, aw)))) := by
  refine mp_of (by decide +kernel) (Nat.le_of_ble_eq_true rfl) ?_
  intro p e s m9 below meth c X hr hlk hH hname ls hl
  replace hl : lv_has ls 6 [(0, .ref (qt 10)), (1, .int 0), (2, .ref (qy 3)), (3, .int (nI k))] := hl
  obtain ⟨stt, stn, std, fb, fa, bs, as, hT, hn, hw, hd, hS, hb, ha, hx, hk, hSS⟩ := id hC
  have hr40 := ht.2.2.2.1
  have hwn := hw.1.2.2.1
  have hwl := hw.1.2.2.2.1
  refine lv_iload_n X.x X.b (dk DX11_doTold_0 0 rfl) rfl (lv_at hl 3 rfl) ?_
  refine lv_iconst (v := 1) X.x X.b (dk DX11_doTold_0 1 rfl) (by decide) ?_
  refine lv_iadd X.x X.b (dk DX11_doTold_0 2 rfl) ?_
  rw [show nI k + (1 : Int32) = nI (k + 1) by rw [← nI_1]]
  refine lv_aload_n X.x X.b (dk DX11_doTold_0 3 rfl) rfl (lv_at hl 2 rfl) ?_
  refine ag_getIN OX7 X hy hH 1 (by decide) rfl kFN_X11_284 (dk DX11_doTold_0 4 rfl) ?_
  rw [ht.2.2.1]
  refine lv_icmp_lt (tgt := 12) X.x X.b (dk DX11_doTold_0 5 rfl) (by decide) (fun c => ?_) (fun c => ?_)
  · have hi2 : k + 1 < row.length := by
      rcases Nat.lt_or_ge (k + 1) row.length with h | h
      · exact h
      · exact absurd c (nI_nlt h (by omega))
    refine lv_aload_n X.x X.b (dk DX11_doTold_0 8 rfl) rfl (lv_at hl 2 rfl) ?_
    refine lv_iload_n X.x X.b (dk DX11_doTold_0 9 rfl) rfl (lv_at hl 3 rfl) ?_
    refine lv_iconst (v := 1) X.x X.b (dk DX11_doTold_0 10 rfl) (by decide) ?_
    refine lv_iadd X.x X.b (dk DX11_doTold_0 11 rfl) ?_
    rw [show nI k + (1 : Int32) = nI (k + 1) by rw [← nI_1]]
    refine mr_cl0 hH ⟨rfl, rfl⟩ (mr_runV (As := [.int (nI (k + 1))]) (rest := []) X hH (at1 hy (c_X7_cellAt hy.1 (cellAt_7 ht (i := k + 1) (by omega)))) hy.root OX7.1 kM_X11_311 kI_X7_cellAt kS_X7_cellAt kN_X7 kC_X7_cellAt hd_X7_cellAt ⟨Nat.le_of_ble_eq_true rfl, Nat.le_of_ble_eq_true rfl⟩ rfl hl.1 (Nat.le_of_ble_eq_true rfl) (dk DX11_doTold_0 12 rfl) ⟨Nat.le_of_ble_eq_true rfl, Nat.le_of_ble_eq_true rfl⟩) (fun r h1 H locs hp hH => ?_)
    obtain ⟨hr1, hp⟩ := hp
    rw [hr1]
    rw [hp, hy.eq] at hH
    refine lv_lstore (lv' := [(4, .long (wl row (k + 1))), (0, .ref (qt 10)), (1, .int 0), (2, .ref (qy 3)), (3, .int (nI k))]) X.x X.b (dk DX11_doTold_0 13 rfl) hl (by decide) rfl (fun ls hl => ?_)
    replace hl : lv_has ls 6 [(0, .ref (qt 10)), (1, .int 0), (4, .long (wl row (k + 1)))] := lv_sub hl [1, 2, 0] rfl
    refine lv_lload X.x X.b (dk DX11_doTold_0 14 rfl) (lv_at hl 2 rfl) ?_
    refine lv_lconst (v := 0) X.x X.b (dk DX11_doTold_0 15 rfl) (by decide) ?_
    refine W.lcmp X.x X.b (dk DX11_doTold_0 16 rfl) ?_
    refine lv_if_lt (tgt := 56) X.x X.b (dk DX11_doTold_0 17 rfl) (by decide) (fun c2 => ?_) (fun c2 => ?_)
    · rw [lg_cmp_lt] at c2
      have hA : actM row k (w, bw, aw) = (0, (w, bw, aw)) := by
        unfold actM
        dsimp only
        rw [if_neg (by rw [hv1]; decide), if_neg (by rw [hv1]; decide), if_pos hv1]
        rw [if_neg (fun z => absurd c2 z.2.1)]
      refine lv_iconst (v := 0) X.x X.b (dk DX11_doTold_0 31 rfl) (by decide) ?_
      exact W.widen (k := (rm_X11_doTold).cells) (n := (rm_X11_doTold).slots) (Nat.le_of_ble_eq_true rfl) (Nat.le_of_ble_eq_true rfl) (mr_iret X hr hlk hH (post := APost G qt qn qd qh ow m S (w, bw, aw) (actM row k (w, bw, aw))) (by rw [hA]; exact ⟨rfl, Or.inl ⟨rfl, rfl⟩⟩) (dk DX11_doTold_0 32 rfl))
    · rw [lg_cmp_lt] at c2
      refine lv_lload X.x X.b (dk DX11_doTold_0 18 rfl) (lv_at hl 2 rfl) ?_
      refine lv_iload_n X.x X.b (dk DX11_doTold_0 19 rfl) rfl (lv_at hl 1 rfl) ?_
      refine lv_if_eq (tgt := 44) X.x X.b (dk DX11_doTold_0 20 rfl) (by decide) (fun _ => ?_) (fun z => absurd (show (0 : Int32) = 0 from rfl) z)
      refine lv_aload_n X.x X.b (dk DX11_doTold_0 25 rfl) rfl (lv_at hl 0 rfl) ?_
      refine ag_getR (t := 4) OX11 X hT hH 1 (by decide) rfl kF_X11_19 (dk DX11_doTold_0 26 rfl) ?_
      rw [hk.1]
      refine ag_getIN OX10 X hn hH 0 (by decide) rfl kFN_X11_239 (dk DX11_doTold_0 27 rfl) ?_
      rw [hw.1.1]
      refine lv_i2l X.x X.b (dk DX11_doTold_0 28 rfl) rfl ?_
      refine W.lcmp X.x X.b (dk DX11_doTold_0 29 rfl) ?_
      rw [nI_l (by omega)]
      refine lv_if_lt (tgt := 58) X.x X.b (dk DX11_doTold_0 30 rfl) (by decide) (fun c3 => ?_) (fun c3 => ?_)
      · rw [lg_cmp_lt] at c3
        obtain ⟨j, hj, hjv, hjn⟩ := lN_of_lt hwn c2 c3
        have hA : actM row k (w, bw, aw) = (2, (leftW w j, pushW bw w, [])) := by
          unfold actM
          dsimp only
          rw [if_neg (by rw [hv1]; decide), if_neg (by rw [hv1]; decide), if_pos hv1]
          rw [if_pos ⟨hi2, c2, c3⟩, hjn]
        refine lv_iload_n X.x X.b (dk DX11_doTold_0 33 rfl) rfl (lv_at hl 1 rfl) ?_
        refine lv_if_eq (tgt := 73) X.x X.b (dk DX11_doTold_0 34 rfl) (by decide) (fun _ => ?_) (fun z => absurd (show (0 : Int32) = 0 from rfl) z)
        refine lv_aload_n X.x X.b (dk DX11_doTold_0 41 rfl) rfl (lv_at hl 0 rfl) ?_
        refine lv_lload X.x X.b (dk DX11_doTold_0 42 rfl) (lv_at hl 2 rfl) ?_
        refine lv_l2i X.x X.b (dk DX11_doTold_0 43 rfl) rfl ?_
        rw [show (wl row (k + 1)).toInt32 = nI j by rw [hjv, lN_i]]
        refine mr_cv hH (mr_runV (As := [.int (nI j)]) (rest := []) X hH (core_left hC hj) hT.root OX11.1 kM_X11_270 kI_X11_keepLeft kS_X11_keepLeft kN_X11 kC_X11_keepLeft hd_X11_keepLeft ⟨Nat.le_of_ble_eq_true rfl, Nat.le_of_ble_eq_true rfl⟩ rfl hl.1 (Nat.le_of_ble_eq_true rfl) (dk DX11_doTold_0 44 rfl) ⟨Nat.le_of_ble_eq_true rfl, Nat.le_of_ble_eq_true rfl⟩) (fun m1 H locs hp hH => ?_)
        refine lv_iconst (v := 2) X.x X.b (dk DX11_doTold_0 45 rfl) (by decide) ?_
        exact W.widen (k := (rm_X11_doTold).cells) (n := (rm_X11_doTold).slots) (Nat.le_of_ble_eq_true rfl) (Nat.le_of_ble_eq_true rfl) (mr_iret X hr hlk hH (post := APost G qt qn qd qh ow m S (w, bw, aw) (actM row k (w, bw, aw))) (by rw [hA]; exact ⟨rfl, Or.inr hp⟩) (dk DX11_doTold_0 46 rfl))
      · rw [lg_cmp_lt] at c3
        have hA : actM row k (w, bw, aw) = (0, (w, bw, aw)) := by
          unfold actM
          dsimp only
          rw [if_neg (by rw [hv1]; decide), if_neg (by rw [hv1]; decide), if_pos hv1]
          rw [if_neg (fun z => c3 z.2.2)]
        refine lv_iconst (v := 0) X.x X.b (dk DX11_doTold_0 31 rfl) (by decide) ?_
        exact W.widen (k := (rm_X11_doTold).cells) (n := (rm_X11_doTold).slots) (Nat.le_of_ble_eq_true rfl) (Nat.le_of_ble_eq_true rfl) (mr_iret X hr hlk hH (post := APost G qt qn qd qh ow m S (w, bw, aw) (actM row k (w, bw, aw))) (by rw [hA]; exact ⟨rfl, Or.inl ⟨rfl, rfl⟩⟩) (dk DX11_doTold_0 32 rfl))
  · have hi2 : row.length ≤ k + 1 := by
      rcases Nat.lt_or_ge (k + 1) row.length with h | h
      · exact absurd (nI_lt h (by omega)) c
      · exact h
    have hA : actM row k (w, bw, aw) = (0, (w, bw, aw)) := by
      unfold actM
      dsimp only
      rw [if_neg (by rw [hv1]; decide), if_neg (by rw [hv1]; decide), if_pos hv1]
      rw [if_neg (fun z => absurd z.1 (by omega))]
    refine lv_iconst (v := 0) X.x X.b (dk DX11_doTold_0 6 rfl) (by decide) ?_
    exact W.widen (k := (rm_X11_doTold).cells) (n := (rm_X11_doTold).slots) (Nat.le_of_ble_eq_true rfl) (Nat.le_of_ble_eq_true rfl) (mr_iret X hr hlk hH (post := APost G qt qn qd qh ow m S (w, bw, aw) (actM row k (w, bw, aw))) (by rw [hA]; exact ⟨rfl, Or.inl ⟨rfl, rfl⟩⟩) (dk DX11_doTold_0 7 rfl))
