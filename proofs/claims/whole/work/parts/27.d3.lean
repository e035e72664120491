abbrev rm_X11_actAt : Room := { frames := 8, cells := 4, slots := 197, locals := 190 }
set_option maxHeartbeats 4000000 in
set_option maxRecDepth 100000 in
theorem c_X11_actAt {l : Launch} {G : mG} {qt qn qd qh : Nat → Nat} {ow : Nat → Nat} {m : mM} {w : Wd} {bw aw : List Wd} {S : Nat → Prop} (hC : Core G qt qn qd qh ow m w bw aw S) {qy : Nat → Nat} {sty : OS} {so : Nat} {row : List Int64} (hy : At G ow m LX7 qy sty) (ht : TrC sty so row) {k : Nat} (hk9 : k < row.length) : cQ l G yX11_actAt cX11_actAt 5 (some FieldType.int) rm_X11_actAt [.ref (qt 10), .ref (qy 3), .int (nI k)] m (mQi G (APost G qt qn qd qh ow m S (w, bw, aw) (actM row k (w, bw, aw)))) := by
  refine mp_of (by decide +kernel) (Nat.le_of_ble_eq_true rfl) ?_
  intro p e s m9 below meth c X hr hlk hH hname ls hl
  replace hl : lv_has ls 5 [(0, .ref (qt 10)), (1, .ref (qy 3)), (2, .int (nI k))] := hl
  obtain ⟨stt, stn, std, fb, fa, bs, as, hT, hn, hw, hd, hS, hb, ha, hx, hk, hSS⟩ := id hC
  have hr40 := ht.2.2.2.1
  obtain ⟨⟨sth, hh, -, -⟩, -⟩ := id hS
  refine lv_aload_n X.x X.b (dk DX11_actAt_0 0 rfl) rfl (lv_at hl 1 rfl) ?_
  refine lv_iload_n X.x X.b (dk DX11_actAt_0 1 rfl) rfl (lv_at hl 2 rfl) ?_
  refine mr_cl0 hH ⟨rfl, rfl⟩ (mr_runV (As := [.int (nI k)]) (rest := []) X hH (at1 hy (c_X7_cellAt hy.1 (cellAt_7 ht (i := k) (by omega)))) hy.root OX7.1 kM_X11_311 kI_X7_cellAt kS_X7_cellAt kN_X7 kC_X7_cellAt hd_X7_cellAt ⟨Nat.le_of_ble_eq_true rfl, Nat.le_of_ble_eq_true rfl⟩ rfl hl.1 (Nat.le_of_ble_eq_true rfl) (dk DX11_actAt_0 2 rfl) ⟨Nat.le_of_ble_eq_true rfl, Nat.le_of_ble_eq_true rfl⟩) (fun r h1 H locs hp hH => ?_)
  obtain ⟨hr1, hp⟩ := hp
  rw [hr1]
  rw [hp, hy.eq] at hH
  refine lv_lstore_n (lv' := [(3, .long (wl row k)), (0, .ref (qt 10)), (1, .ref (qy 3)), (2, .int (nI k))]) X.x X.b (dk DX11_actAt_0 3 rfl) rfl hl (by decide) rfl (fun ls hl => ?_)
  replace hl : lv_has ls 5 [(0, .ref (qt 10)), (1, .ref (qy 3)), (2, .int (nI k)), (3, .long (wl row k))] := lv_sub hl [1, 2, 3, 0] rfl
  refine lv_lload_n X.x X.b (dk DX11_actAt_0 4 rfl) rfl (lv_at hl 3 rfl) ?_
  refine lv_ldc2 (v := (-1)) X.x X.b X.ow (X.ts _ kK_X11_242) (dk DX11_actAt_0 5 rfl) ?_
  refine W.lcmp X.x X.b (dk DX11_actAt_0 6 rfl) ?_
  refine lv_if_ne (tgt := 21) X.x X.b (dk DX11_actAt_0 7 rfl) (by decide) (fun c1 => ?_) (fun c1 => ?_)
  · rw [lg_cmp_eq] at c1
    refine lv_lload_n X.x X.b (dk DX11_actAt_0 13 rfl) rfl (lv_at hl 3 rfl) ?_
    refine lv_ldc2 (v := (-2)) X.x X.b X.ow (X.ts _ kK_X11_372) (dk DX11_actAt_0 14 rfl) ?_
    refine W.lcmp X.x X.b (dk DX11_actAt_0 15 rfl) ?_
    refine lv_if_eq (tgt := 37) X.x X.b (dk DX11_actAt_0 16 rfl) (by decide) (fun c2 => ?_) (fun c2 => ?_)
    · rw [lg_cmp_eq] at c2
      refine lv_aload_n X.x X.b (dk DX11_actAt_0 21 rfl) rfl (lv_at hl 0 rfl) ?_
      refine lv_lload_n X.x X.b (dk DX11_actAt_0 22 rfl) rfl (lv_at hl 3 rfl) ?_
      refine lv_ldc2 (v := (-2)) X.x X.b X.ow (X.ts _ kK_X11_372) (dk DX11_actAt_0 23 rfl) ?_
      refine W.lcmp X.x X.b (dk DX11_actAt_0 24 rfl) ?_
      refine lv_if_ne (tgt := 50) X.x X.b (dk DX11_actAt_0 25 rfl) (by decide) (fun c3 => ?_) (fun c3 => ?_)
      · rw [lg_cmp_eq] at c3
        exact absurd c2 c3
      · rw [lg_cmp_eq] at c3
        refine lv_iconst (v := 1) X.x X.b (dk DX11_actAt_0 26 rfl) (by decide) ?_
        refine lv_goto (tgt := 51) X.x X.b (dk DX11_actAt_0 27 rfl) (by decide) ?_
        refine lv_aload_n X.x X.b (dk DX11_actAt_0 29 rfl) rfl (lv_at hl 1 rfl) ?_
        refine lv_iload_n X.x X.b (dk DX11_actAt_0 30 rfl) rfl (lv_at hl 2 rfl) ?_
        refine mr_ci hH (mr_runV (As := [.int 1, .ref (qy 3), .int (nI k)]) (rest := []) X hH (c_X11_doTold_d hC hy ht hk9 c2) hT.root OX11.1 kM_X11_376 kI_X11_doTold kS_X11_doTold kN_X11 kC_X11_doTold hd_X11_doTold ⟨Nat.le_of_ble_eq_true rfl, Nat.le_of_ble_eq_true rfl⟩ rfl hl.1 (Nat.le_of_ble_eq_true rfl) (dk DX11_actAt_0 31 rfl) ⟨Nat.le_of_ble_eq_true rfl, Nat.le_of_ble_eq_true rfl⟩) (fun r m1 H locs hp hH => ?_)
        exact W.widen (k := (rm_X11_actAt).cells) (n := (rm_X11_actAt).slots) (Nat.le_of_ble_eq_true rfl) (Nat.le_of_ble_eq_true rfl) (mr_iret X hr hlk hH (post := APost G qt qn qd qh ow m S (w, bw, aw) (actM row k (w, bw, aw))) hp (dk DX11_actAt_0 32 rfl))
    · rw [lg_cmp_eq] at c2
      refine lv_lload_n X.x X.b (dk DX11_actAt_0 17 rfl) rfl (lv_at hl 3 rfl) ?_
      refine lv_ldc2 (v := (-4)) X.x X.b X.ow (X.ts _ kK_X11_374) (dk DX11_actAt_0 18 rfl) ?_
      refine W.lcmp X.x X.b (dk DX11_actAt_0 19 rfl) ?_
      refine lv_if_ne (tgt := 57) X.x X.b (dk DX11_actAt_0 20 rfl) (by decide) (fun c3 => ?_) (fun c3 => ?_)
      · rw [lg_cmp_eq] at c3
        refine lv_lload_n X.x X.b (dk DX11_actAt_0 33 rfl) rfl (lv_at hl 3 rfl) ?_
        refine lv_ldc2 (v := (-3)) X.x X.b X.ow (X.ts _ kK_X11_380) (dk DX11_actAt_0 34 rfl) ?_
        refine W.lcmp X.x X.b (dk DX11_actAt_0 35 rfl) ?_
        refine lv_if_ne (tgt := 71) X.x X.b (dk DX11_actAt_0 36 rfl) (by decide) (fun c4 => ?_) (fun c4 => ?_)
        · rw [lg_cmp_eq] at c4
          refine lv_lload_n X.x X.b (dk DX11_actAt_0 41 rfl) rfl (lv_at hl 3 rfl) ?_
          refine lv_ldc2 (v := (-5)) X.x X.b X.ow (X.ts _ kK_X11_382) (dk DX11_actAt_0 42 rfl) ?_
          refine W.lcmp X.x X.b (dk DX11_actAt_0 43 rfl) ?_
          refine lv_if_ne (tgt := 99) X.x X.b (dk DX11_actAt_0 44 rfl) (by decide) (fun c5 => ?_) (fun c5 => ?_)
          · rw [lg_cmp_eq] at c5
            refine lv_lload_n X.x X.b (dk DX11_actAt_0 55 rfl) rfl (lv_at hl 3 rfl) ?_
            refine lv_ldc2 (v := (-6)) X.x X.b X.ow (X.ts _ kK_X11_384) (dk DX11_actAt_0 56 rfl) ?_
            refine W.lcmp X.x X.b (dk DX11_actAt_0 57 rfl) ?_
            refine lv_if_ne (tgt := 127) X.x X.b (dk DX11_actAt_0 58 rfl) (by decide) (fun c6 => ?_) (fun c6 => ?_)
            · rw [lg_cmp_eq] at c6
              have hA : actM row k (w, bw, aw) = (0, (w, bw, aw)) := by
                unfold actM
                dsimp only
                rw [if_neg c1, if_neg c2, if_neg c3, if_neg c4, if_neg c5, if_neg c6]
              refine lv_iconst (v := 0) X.x X.b (dk DX11_actAt_1 9 rfl) (by decide) ?_
              exact W.widen (k := (rm_X11_actAt).cells) (n := (rm_X11_actAt).slots) (Nat.le_of_ble_eq_true rfl) (Nat.le_of_ble_eq_true rfl) (mr_iret X hr hlk hH (post := APost G qt qn qd qh ow m S (w, bw, aw) (actM row k (w, bw, aw))) (by rw [hA]; exact ⟨rfl, Or.inl ⟨rfl, rfl⟩⟩) (dk DX11_actAt_1 10 rfl))
            · rw [lg_cmp_eq] at c6
              refine lv_aload_n X.x X.b (dk DX11_actAt_0 59 rfl) rfl (lv_at hl 0 rfl) ?_
              refine ag_getR (t := 4) OX11 X hT hH 3 (by decide) rfl kF_X11_29 (dk DX11_actAt_1 0 rfl) ?_
              rw [hk.2.2.1]
              refine lv_aload_n X.x X.b (dk DX11_actAt_1 1 rfl) rfl (lv_at hl 0 rfl) ?_
              refine ag_getR (t := 4) OX11 X hT hH 1 (by decide) rfl kF_X11_19 (dk DX11_actAt_1 2 rfl) ?_
              rw [hk.1]
              refine mr_ci hH (mr_runV (As := [.ref (qn 5)]) (rest := []) X hH (core_goOn hC) hh.root OX1.1 kM_X11_277 kI_X1_goOn kS_X1_goOn kN_X1 kC_X1_goOn hd_X1_goOn ⟨Nat.le_of_ble_eq_true rfl, Nat.le_of_ble_eq_true rfl⟩ rfl hl.1 (Nat.le_of_ble_eq_true rfl) (dk DX11_actAt_1 3 rfl) ⟨Nat.le_of_ble_eq_true rfl, Nat.le_of_ble_eq_true rfl⟩) (fun r m1 H locs hp hH => ?_)
              rcases hp with ⟨h9, hr1, hm1⟩ | ⟨b0, v, h9, hr1, hP⟩
              · have hA : actM row k (w, bw, aw) = (0, (w, bw, aw)) := by
                  unfold actM
                  dsimp only
                  rw [if_neg c1, if_neg c2, if_neg c3, if_neg c4, if_neg c5, if_pos c6]
                  subst h9
                  rfl
                rw [hr1]
                rw [hm1] at hH
                refine lv_if_eq (tgt := 125) X.x X.b (dk DX11_actAt_1 4 rfl) (by decide) (fun _ => ?_) (fun z => absurd (show (0 : Int32) = 0 from rfl) z)
                refine lv_iconst (v := 0) X.x X.b (dk DX11_actAt_1 7 rfl) (by decide) ?_
                exact W.widen (k := (rm_X11_actAt).cells) (n := (rm_X11_actAt).slots) (Nat.le_of_ble_eq_true rfl) (Nat.le_of_ble_eq_true rfl) (mr_iret X hr hlk hH (post := APost G qt qn qd qh ow m S (w, bw, aw) (actM row k (w, bw, aw))) (by rw [hA]; exact ⟨rfl, Or.inl ⟨rfl, rfl⟩⟩) (dk DX11_actAt_1 8 rfl))
              · have hA : actM row k (w, bw, aw) = (1, (v, bw ++ [w], b0)) := by
                  unfold actM
                  dsimp only
                  rw [if_neg c1, if_neg c2, if_neg c3, if_neg c4, if_neg c5, if_pos c6]
                  subst h9
                  rw [List.getLast?_concat]
                  dsimp only
                  rw [List.dropLast_concat]
                rw [hr1]
                refine lv_if_eq (tgt := 125) X.x X.b (dk DX11_actAt_1 4 rfl) (by decide) (fun z => absurd z (show ¬ (1 : Int32) = 0 by decide)) (fun _ => ?_)
                refine lv_iconst (v := 1) X.x X.b (dk DX11_actAt_1 5 rfl) (by decide) ?_
                refine lv_goto (tgt := 126) X.x X.b (dk DX11_actAt_1 6 rfl) (by decide) ?_
                exact W.widen (k := (rm_X11_actAt).cells) (n := (rm_X11_actAt).slots) (Nat.le_of_ble_eq_true rfl) (Nat.le_of_ble_eq_true rfl) (mr_iret X hr hlk hH (post := APost G qt qn qd qh ow m S (w, bw, aw) (actM row k (w, bw, aw))) (by rw [hA]; exact ⟨rfl, Or.inr hP⟩) (dk DX11_actAt_1 8 rfl))
          · rw [lg_cmp_eq] at c5
            refine lv_aload_n X.x X.b (dk DX11_actAt_0 45 rfl) rfl (lv_at hl 0 rfl) ?_
            refine ag_getR (t := 4) OX11 X hT hH 3 (by decide) rfl kF_X11_29 (dk DX11_actAt_0 46 rfl) ?_
            rw [hk.2.2.1]
            refine lv_aload_n X.x X.b (dk DX11_actAt_0 47 rfl) rfl (lv_at hl 0 rfl) ?_
            refine ag_getR (t := 4) OX11 X hT hH 1 (by decide) rfl kF_X11_19 (dk DX11_actAt_0 48 rfl) ?_
            rw [hk.1]
            refine mr_ci hH (mr_runV (As := [.ref (qn 5)]) (rest := []) X hH (core_goBack hC) hh.root OX1.1 kM_X11_273 kI_X1_goBack kS_X1_goBack kN_X1 kC_X1_goBack hd_X1_goBack ⟨Nat.le_of_ble_eq_true rfl, Nat.le_of_ble_eq_true rfl⟩ rfl hl.1 (Nat.le_of_ble_eq_true rfl) (dk DX11_actAt_0 49 rfl) ⟨Nat.le_of_ble_eq_true rfl, Nat.le_of_ble_eq_true rfl⟩) (fun r m1 H locs hp hH => ?_)
            rcases hp with ⟨h9, hr1, hm1⟩ | ⟨b0, v, h9, hr1, hP⟩
            · have hA : actM row k (w, bw, aw) = (0, (w, bw, aw)) := by
                unfold actM
                dsimp only
                rw [if_neg c1, if_neg c2, if_neg c3, if_neg c4, if_pos c5]
                subst h9
                rfl
              rw [hr1]
              rw [hm1] at hH
              refine lv_if_eq (tgt := 97) X.x X.b (dk DX11_actAt_0 50 rfl) (by decide) (fun _ => ?_) (fun z => absurd (show (0 : Int32) = 0 from rfl) z)
              refine lv_iconst (v := 0) X.x X.b (dk DX11_actAt_0 53 rfl) (by decide) ?_
              exact W.widen (k := (rm_X11_actAt).cells) (n := (rm_X11_actAt).slots) (Nat.le_of_ble_eq_true rfl) (Nat.le_of_ble_eq_true rfl) (mr_iret X hr hlk hH (post := APost G qt qn qd qh ow m S (w, bw, aw) (actM row k (w, bw, aw))) (by rw [hA]; exact ⟨rfl, Or.inl ⟨rfl, rfl⟩⟩) (dk DX11_actAt_0 54 rfl))
            · have hA : actM row k (w, bw, aw) = (1, (v, b0, aw ++ [w])) := by
                unfold actM
                dsimp only
                rw [if_neg c1, if_neg c2, if_neg c3, if_neg c4, if_pos c5]
                subst h9
                rw [List.getLast?_concat]
                dsimp only
                rw [List.dropLast_concat]
              rw [hr1]
              refine lv_if_eq (tgt := 97) X.x X.b (dk DX11_actAt_0 50 rfl) (by decide) (fun z => absurd z (show ¬ (1 : Int32) = 0 by decide)) (fun _ => ?_)
              refine lv_iconst (v := 1) X.x X.b (dk DX11_actAt_0 51 rfl) (by decide) ?_
              refine lv_goto (tgt := 98) X.x X.b (dk DX11_actAt_0 52 rfl) (by decide) ?_
              exact W.widen (k := (rm_X11_actAt).cells) (n := (rm_X11_actAt).slots) (Nat.le_of_ble_eq_true rfl) (Nat.le_of_ble_eq_true rfl) (mr_iret X hr hlk hH (post := APost G qt qn qd qh ow m S (w, bw, aw) (actM row k (w, bw, aw))) (by rw [hA]; exact ⟨rfl, Or.inr hP⟩) (dk DX11_actAt_0 54 rfl))
        · rw [lg_cmp_eq] at c4
          refine lv_aload_n X.x X.b (dk DX11_actAt_0 37 rfl) rfl (lv_at hl 0 rfl) ?_
          refine mr_cv hH (mr_runV (As := []) (rest := []) X hH (core_dual hC) hT.root OX11.1 kM_X11_267 kI_X11_turnDual kS_X11_turnDual kN_X11 kC_X11_turnDual hd_X11_turnDual ⟨Nat.le_of_ble_eq_true rfl, Nat.le_of_ble_eq_true rfl⟩ rfl hl.1 (Nat.le_of_ble_eq_true rfl) (dk DX11_actAt_0 38 rfl) ⟨Nat.le_of_ble_eq_true rfl, Nat.le_of_ble_eq_true rfl⟩) (fun m1 H locs hP hH => ?_)
          refine lv_iconst (v := 1) X.x X.b (dk DX11_actAt_0 39 rfl) (by decide) ?_
          have hA : actM row k (w, bw, aw) = (1, (dualW w, pushW bw w, [])) := by
            unfold actM
            dsimp only
            rw [if_neg c1, if_neg c2, if_neg c3, if_pos c4]
          exact W.widen (k := (rm_X11_actAt).cells) (n := (rm_X11_actAt).slots) (Nat.le_of_ble_eq_true rfl) (Nat.le_of_ble_eq_true rfl) (mr_iret X hr hlk hH (post := APost G qt qn qd qh ow m S (w, bw, aw) (actM row k (w, bw, aw))) (by rw [hA]; exact ⟨rfl, Or.inr hP⟩) (dk DX11_actAt_0 40 rfl))
      · rw [lg_cmp_eq] at c3
        refine lv_aload_n X.x X.b (dk DX11_actAt_0 21 rfl) rfl (lv_at hl 0 rfl) ?_
        refine lv_lload_n X.x X.b (dk DX11_actAt_0 22 rfl) rfl (lv_at hl 3 rfl) ?_
        refine lv_ldc2 (v := (-2)) X.x X.b X.ow (X.ts _ kK_X11_372) (dk DX11_actAt_0 23 rfl) ?_
        refine W.lcmp X.x X.b (dk DX11_actAt_0 24 rfl) ?_
        refine lv_if_ne (tgt := 50) X.x X.b (dk DX11_actAt_0 25 rfl) (by decide) (fun c4 => ?_) (fun c4 => ?_)
        · rw [lg_cmp_eq] at c4
          refine lv_iconst (v := 0) X.x X.b (dk DX11_actAt_0 28 rfl) (by decide) ?_
          refine lv_aload_n X.x X.b (dk DX11_actAt_0 29 rfl) rfl (lv_at hl 1 rfl) ?_
          refine lv_iload_n X.x X.b (dk DX11_actAt_0 30 rfl) rfl (lv_at hl 2 rfl) ?_
          refine mr_ci hH (mr_runV (As := [.int 0, .ref (qy 3), .int (nI k)]) (rest := []) X hH (c_X11_doTold_l hC hy ht hk9 c3) hT.root OX11.1 kM_X11_376 kI_X11_doTold kS_X11_doTold kN_X11 kC_X11_doTold hd_X11_doTold ⟨Nat.le_of_ble_eq_true rfl, Nat.le_of_ble_eq_true rfl⟩ rfl hl.1 (Nat.le_of_ble_eq_true rfl) (dk DX11_actAt_0 31 rfl) ⟨Nat.le_of_ble_eq_true rfl, Nat.le_of_ble_eq_true rfl⟩) (fun r m1 H locs hp hH => ?_)
          exact W.widen (k := (rm_X11_actAt).cells) (n := (rm_X11_actAt).slots) (Nat.le_of_ble_eq_true rfl) (Nat.le_of_ble_eq_true rfl) (mr_iret X hr hlk hH (post := APost G qt qn qd qh ow m S (w, bw, aw) (actM row k (w, bw, aw))) hp (dk DX11_actAt_0 32 rfl))
        · rw [lg_cmp_eq] at c4
          exact absurd c4 c2
  · rw [lg_cmp_eq] at c1
    refine lv_aload_n X.x X.b (dk DX11_actAt_0 8 rfl) rfl (lv_at hl 0 rfl) ?_
    refine lv_aload_n X.x X.b (dk DX11_actAt_0 9 rfl) rfl (lv_at hl 1 rfl) ?_
    refine lv_iload_n X.x X.b (dk DX11_actAt_0 10 rfl) rfl (lv_at hl 2 rfl) ?_
    refine mr_ci hH (mr_runV (As := [.ref (qy 3), .int (nI k)]) (rest := []) X hH (c_X11_addTold hC hy ht hk9 c1) hT.root OX11.1 kM_X11_369 kI_X11_addTold kS_X11_addTold kN_X11 kC_X11_addTold hd_X11_addTold ⟨Nat.le_of_ble_eq_true rfl, Nat.le_of_ble_eq_true rfl⟩ rfl hl.1 (Nat.le_of_ble_eq_true rfl) (dk DX11_actAt_0 11 rfl) ⟨Nat.le_of_ble_eq_true rfl, Nat.le_of_ble_eq_true rfl⟩) (fun r m1 H locs hp hH => ?_)
    exact W.widen (k := (rm_X11_actAt).cells) (n := (rm_X11_actAt).slots) (Nat.le_of_ble_eq_true rfl) (Nat.le_of_ble_eq_true rfl) (mr_iret X hr hlk hH (post := APost G qt qn qd qh ow m S (w, bw, aw) (actM row k (w, bw, aw))) hp (dk DX11_actAt_0 12 rfl))
