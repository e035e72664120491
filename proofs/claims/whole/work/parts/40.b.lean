theorem room_le1 {c a x K : Nat} (hx : a = x) (h : c + x ≤ K) : c + a ≤ K := by rw [hx]; exact h
theorem room_le3 {c b K : Nat} (hy : b = 0) (h : c ≤ K) : c + b ≤ K := by rw [hy]; exact h
set_option maxHeartbeats 4000000 in
set_option maxRecDepth 100000 in
theorem lc_feed {p : Program} {l : Launch} {e : Env} {s : State} {m : MethodId} {args : Array Value} {below : List Frame} {meth : Method} {c : Code} {G : mG} {L : Nat} {xs : Nat → Int32} {bS a b ao : Nat} (X : mX G p m c code 8 s args RL) (hX : va_X bS L xs s s.heap) (hbl : bS < s.heap.size) (hbA : ¬ mA G bS) {J : mM → Prop} (hJa : ∀ m, J m → ∃ fs, m a = some (.inr (LX11.1, fs))) (hAg : Ag_feed l G J a b ao) {x4 A1 A2 A3 A4 A5 : Int32} (g1 : vp_in (x4 + 1) L ∧ xs (x4 + 1).toNatClampNeg = A1) (g2 : vp_in (x4 + 2) L ∧ xs (x4 + 2).toNatClampNeg = A2) (g3 : vp_in (x4 + 3) L ∧ xs (x4 + 3).toNatClampNeg = A3) (g4 : vp_in (x4 + 4) L ∧ xs (x4 + 4).toNatClampNeg = A4) (g5 : vp_in (x4 + 5) L ∧ xs (x4 + 5).toNatClampNeg = A5) {mm : mM} {H : Heap} {locs : List Loc} {ls : Array Slot} (hJ : J mm) (hH : mH G mm s.heap H locs) (hl : lv_has ls 8 [(0, .ref bS), (1, .ref a), (2, .ref b), (3, .ref ao), (4, .int x4)]) {cells slots : Nat} (hc : cells + 161 ≤ 601024) (hs : slots + 7887 ≤ 7293034) {Q : State → Prop}
    (kk : ∀ (mm : mM) (H : Heap) (locs : List Loc) (ls : Array Slot), J mm → mH G mm s.heap H locs → lv_has ls 8 [(0, .ref bS), (1, .ref a), (2, .ref b), (3, .ref ao), (4, .int x4)] → W p l e room_1 s m args below meth c H locs (cells + 161) (slots + 7887) Q (F0 m 2497 ls [])) :
    W p l e room_1 s m args below meth c H locs cells slots Q (F0 m 244 ls []) := by
 refine lv_aload_n X.x X.b (dk DL_law_0 25 rfl) rfl (lv_at hl 1 rfl) ?_
 refine lv_aload_n X.x X.b (dk DL_law_0 26 rfl) rfl (lv_at hl 0 rfl) ?_
 refine lv_iload X.x X.b (dk DL_law_0 27 rfl) (lv_at hl 4 rfl) ?_
 refine lv_iconst (v := 1) X.x X.b (dk DL_law_0 28 rfl) (by decide) ?_
 refine lv_iadd X.x X.b (dk DL_law_0 29 rfl) ?_
 refine lw_sld X hH hX hbl hbA g1.1 g1.2 (dk DL_law_0 30 rfl) ?_
 refine lv_aload_n X.x X.b (dk DL_law_0 31 rfl) rfl (lv_at hl 0 rfl) ?_
 refine lv_iload X.x X.b (dk DL_law_0 32 rfl) (lv_at hl 4 rfl) ?_
 refine lv_iconst (v := 2) X.x X.b (dk DL_law_0 33 rfl) (by decide) ?_
 refine lv_iadd X.x X.b (dk DL_law_0 34 rfl) ?_
 refine lw_sld X hH hX hbl hbA g2.1 g2.2 (dk DL_law_0 35 rfl) ?_
 refine lv_aload_n X.x X.b (dk DL_law_0 36 rfl) rfl (lv_at hl 0 rfl) ?_
 refine lv_iload X.x X.b (dk DL_law_0 37 rfl) (lv_at hl 4 rfl) ?_
 refine lv_iconst (v := 3) X.x X.b (dk DL_law_0 38 rfl) (by decide) ?_
 refine lv_iadd X.x X.b (dk DL_law_0 39 rfl) ?_
 refine lw_sld X hH hX hbl hbA g3.1 g3.2 (dk DL_law_0 40 rfl) ?_
 refine lv_aload_n X.x X.b (dk DL_law_0 41 rfl) rfl (lv_at hl 0 rfl) ?_
 refine lv_iload X.x X.b (dk DL_law_0 42 rfl) (lv_at hl 4 rfl) ?_
 refine lv_iconst (v := 4) X.x X.b (dk DL_law_0 43 rfl) (by decide) ?_
 refine lv_iadd X.x X.b (dk DL_law_0 44 rfl) ?_
 refine lw_sld X hH hX hbl hbA g4.1 g4.2 (dk DL_law_0 45 rfl) ?_
 refine lv_aload_n X.x X.b (dk DL_law_0 46 rfl) rfl (lv_at hl 0 rfl) ?_
 refine lv_iload X.x X.b (dk DL_law_0 47 rfl) (lv_at hl 4 rfl) ?_
 refine lv_iconst (v := 5) X.x X.b (dk DL_law_0 48 rfl) (by decide) ?_
 refine lv_iadd X.x X.b (dk DL_law_0 49 rfl) ?_
 refine lw_sld X hH hX hbl hbA g5.1 g5.2 (dk DL_law_0 50 rfl) ?_
 obtain ⟨Pm, hC, hP⟩ := hAg mm A1 A2 A3 A4 A5 hJ
 obtain ⟨fs, ha⟩ := hJa mm hJ
 refine mr_ci hH (mr_runV (As := [.int A1, .int A2, .int A3, .int A4, .int A5]) (rest := []) X hH hC ha OX11.1 kM_L_117 kI_X11_feed kS_X11_feed kN_X11 kC_X11_feed hd_X11_feed ⟨Nat.le_of_ble_eq_true rfl, Nat.le_of_ble_eq_true rfl⟩ rfl hl.1 (Nat.le_of_ble_eq_true rfl) (dk DL_law_0 51 rfl) ⟨room_le1 (a := rm_X11_feed.cells) (x := 0) (K := 601024) rfl (by omega), room_le1 (a := rm_X11_feed.slots) (x := 0) (K := 7293034) rfl (by omega)⟩) (fun r h1 H locs hp hH => ?_)
 obtain ⟨q, st, x, hqb, hq, hm, hF, hJ2⟩ := hP r h1 hp
 refine W.widen (k := cells + 161) (n := slots + 7887) (room_le1 (a := rm_X11_feed.cells) (x := 0) rfl (by omega)) (room_le1 (a := rm_X11_feed.slots) (x := 0) rfl (by omega)) ?_
 subst hqb
 have hR := c_X12_feed (l := l) (G := G) (h := h1) hq hF
 rw [hm] at hR
 have hroot := (oset_at (G := G) (st := st) (h := h1) hq (Nat.le_refl _) ohas_N).trans (congrArg some ocell_N)
 rw [hm] at hroot
 have hroot2 := (oset_at (G := G) (st := x) (h := h1) hq (Nat.le_refl _) ohas_N).trans (congrArg some ocell_N)
 refine lv_aload_n X.x X.b (dk DL_law_0 52 rfl) rfl (lv_at hl 2 rfl) ?_
 refine lv_aload_n X.x X.b (dk DL_law_0 53 rfl) rfl (lv_at hl 0 rfl) ?_
 refine lv_iload X.x X.b (dk DL_law_0 54 rfl) (lv_at hl 4 rfl) ?_
 refine lv_iconst (v := 1) X.x X.b (dk DL_law_0 55 rfl) (by decide) ?_
 refine lv_iadd X.x X.b (dk DL_law_0 56 rfl) ?_
 refine lw_sld X hH hX hbl hbA g1.1 g1.2 (dk DL_law_0 57 rfl) ?_
 refine lv_aload_n X.x X.b (dk DL_law_0 58 rfl) rfl (lv_at hl 0 rfl) ?_
 refine lv_iload X.x X.b (dk DL_law_0 59 rfl) (lv_at hl 4 rfl) ?_
 refine lv_iconst (v := 2) X.x X.b (dk DL_law_1 0 rfl) (by decide) ?_
 refine lv_iadd X.x X.b (dk DL_law_1 1 rfl) ?_
 refine lw_sld X hH hX hbl hbA g2.1 g2.2 (dk DL_law_1 2 rfl) ?_
 refine lv_aload_n X.x X.b (dk DL_law_1 3 rfl) rfl (lv_at hl 0 rfl) ?_
 refine lv_iload X.x X.b (dk DL_law_1 4 rfl) (lv_at hl 4 rfl) ?_
 refine lv_iconst (v := 3) X.x X.b (dk DL_law_1 5 rfl) (by decide) ?_
 refine lv_iadd X.x X.b (dk DL_law_1 6 rfl) ?_
 refine lw_sld X hH hX hbl hbA g3.1 g3.2 (dk DL_law_1 7 rfl) ?_
 refine lv_aload_n X.x X.b (dk DL_law_1 8 rfl) rfl (lv_at hl 0 rfl) ?_
 refine lv_iload X.x X.b (dk DL_law_1 9 rfl) (lv_at hl 4 rfl) ?_
 refine lv_iconst (v := 4) X.x X.b (dk DL_law_1 10 rfl) (by decide) ?_
 refine lv_iadd X.x X.b (dk DL_law_1 11 rfl) ?_
 refine lw_sld X hH hX hbl hbA g4.1 g4.2 (dk DL_law_1 12 rfl) ?_
 refine lv_aload_n X.x X.b (dk DL_law_1 13 rfl) rfl (lv_at hl 0 rfl) ?_
 refine lv_iload X.x X.b (dk DL_law_1 14 rfl) (lv_at hl 4 rfl) ?_
 refine lv_iconst (v := 5) X.x X.b (dk DL_law_1 15 rfl) (by decide) ?_
 refine lv_iadd X.x X.b (dk DL_law_1 16 rfl) ?_
 refine lw_sld X hH hX hbl hbA g5.1 g5.2 (dk DL_law_1 17 rfl) ?_
 refine mr_ci0 hH ⟨rfl, rfl⟩ (mr_runV (As := [.int A1, .int A2, .int A3, .int A4, .int A5]) (rest := [.int r]) X hH hR hroot OX12.1 kM_L_121 kI_X12_feed kS_X12_feed kN_X12 kC_X12_feed hd_X12_feed ⟨Nat.le_of_ble_eq_true rfl, Nat.le_of_ble_eq_true rfl⟩ rfl hl.1 (Nat.le_of_ble_eq_true rfl) (dk DL_law_1 18 rfl) ⟨room_le3 (c := cells + 161) (b := rm_X12_feed.cells) (K := 601024) rfl hc, room_le3 (c := slots + 7887) (b := rm_X12_feed.slots) (K := 7293034) rfl hs⟩) (fun r2 h2 H locs hp2 hH => ?_)
 replace hp2 : r2 = r ∧ h2 = oset LX12 G q x h1 := hp2
 obtain ⟨e1, e2⟩ := hp2
 subst e2
 refine lv_icmp_eq (tgt := 2497) X.x X.b (dk DL_law_1 19 rfl) (by decide) (fun _ => ?_) (fun z => absurd e1.symm z)
 exact kk _ _ _ _ hJ2 hH (lv_sub hl [0, 1, 2, 3, 4] rfl)
set_option maxHeartbeats 4000000 in
set_option maxRecDepth 100000 in
theorem lc_world {p : Program} {l : Launch} {e : Env} {s : State} {m : MethodId} {args : Array Value} {below : List Frame} {meth : Method} {c : Code} {G : mG} {L : Nat} {xs : Nat → Int32} {bS a b ao : Nat} (X : mX G p m c code 8 s args RL) (hX : va_X bS L xs s s.heap) (hbl : bS < s.heap.size) (hbA : ¬ mA G bS) {J : mM → Prop} (hJa : ∀ m, J m → ∃ fs, m a = some (.inr (LX11.1, fs))) (hAg : Ag_world l G J a b ao) {x4 A1 A2 A3 A4 A5 : Int32} (g1 : vp_in (x4 + 1) L ∧ xs (x4 + 1).toNatClampNeg = A1) (g2 : vp_in (x4 + 2) L ∧ xs (x4 + 2).toNatClampNeg = A2) (g3 : vp_in (x4 + 3) L ∧ xs (x4 + 3).toNatClampNeg = A3) (g4 : vp_in (x4 + 4) L ∧ xs (x4 + 4).toNatClampNeg = A4) (g5 : vp_in (x4 + 5) L ∧ xs (x4 + 5).toNatClampNeg = A5) {mm : mM} {H : Heap} {locs : List Loc} {ls : Array Slot} (hJ : J mm) (hH : mH G mm s.heap H locs) (hl : lv_has ls 8 [(0, .ref bS), (1, .ref a), (2, .ref b), (3, .ref ao), (4, .int x4)]) {cells slots : Nat} (hc : cells + 161 ≤ 601024) (hs : slots + 7887 ≤ 7293034) {Q : State → Prop}
    (kk : ∀ (mm : mM) (H : Heap) (locs : List Loc) (ls : Array Slot), J mm → mH G mm s.heap H locs → lv_has ls 8 [(0, .ref bS), (1, .ref a), (2, .ref b), (3, .ref ao), (4, .int x4)] → W p l e room_1 s m args below meth c H locs (cells + 161) (slots + 7887) Q (F0 m 2497 ls [])) :
    W p l e room_1 s m args below meth c H locs cells slots Q (F0 m 317 ls []) := by
 refine lv_aload_n X.x X.b (dk DL_law_1 22 rfl) rfl (lv_at hl 1 rfl) ?_
 refine lv_aload_n X.x X.b (dk DL_law_1 23 rfl) rfl (lv_at hl 0 rfl) ?_
 refine lv_iload X.x X.b (dk DL_law_1 24 rfl) (lv_at hl 4 rfl) ?_
 refine lv_iconst (v := 1) X.x X.b (dk DL_law_1 25 rfl) (by decide) ?_
 refine lv_iadd X.x X.b (dk DL_law_1 26 rfl) ?_
 refine lw_sld X hH hX hbl hbA g1.1 g1.2 (dk DL_law_1 27 rfl) ?_
 refine lv_aload_n X.x X.b (dk DL_law_1 28 rfl) rfl (lv_at hl 3 rfl) ?_
 obtain ⟨Pm, hC, hP⟩ := hAg mm A1 hJ
 refine mr_xi hH (mr_hrunS (As := [.ref a, .int A1, .ref ao]) (rest := []) X hH hC kM_L_122 kT_L_world kN_L kW_L_world hd_L_world ⟨Nat.le_of_ble_eq_true rfl, Nat.le_of_ble_eq_true rfl⟩ rfl hl.1 (Nat.le_of_ble_eq_true rfl) (dk DL_law_1 29 rfl) ⟨room_le1 (a := rm_L_world.cells) (x := 1) (K := 601024) rfl (by omega), room_le1 (a := rm_L_world.slots) (x := 6) (K := 7293034) rfl (by omega)⟩) (fun E h1 q9 H locs hp hH hth => hp.elim) (fun r h1 H locs hp hH => ?_)
 obtain ⟨q, st, x, bv, fo, hqb, hq, hm, hF, hx2, hfo, hv, hJ2⟩ := hP r h1 hp
 refine W.widen (k := cells + 161) (n := slots + 7887) (room_le1 (a := rm_L_world.cells) (x := 1) rfl (by omega)) (room_le1 (a := rm_L_world.slots) (x := 6) rfl (by omega)) ?_
 subst hqb
 have hR := c_X12_world (l := l) (G := G) (h := h1) hq hF
 rw [hm] at hR
 have hroot := (oset_at (G := G) (st := st) (h := h1) hq (Nat.le_refl _) ohas_N).trans (congrArg some ocell_N)
 rw [hm] at hroot
 have hroot2 := (oset_at (G := G) (st := x) (h := h1) hq (Nat.le_refl _) ohas_N).trans (congrArg some ocell_N)
 refine lv_istore (lv' := [(5, .int r), (0, .ref bS), (1, .ref a), (2, .ref (q 53)), (3, .ref ao), (4, .int x4)]) X.x X.b (dk DL_law_1 30 rfl) hl (by decide) rfl (fun ls hl => ?_)
 replace hl : lv_has ls 8 [(0, .ref bS), (1, .ref a), (2, .ref (q 53)), (3, .ref ao), (4, .int x4), (5, .int r)] := lv_sub hl [1, 2, 3, 4, 5, 0] rfl
 refine lv_aload_n X.x X.b (dk DL_law_1 31 rfl) rfl (lv_at hl 2 rfl) ?_
 refine lv_aload_n X.x X.b (dk DL_law_1 32 rfl) rfl (lv_at hl 0 rfl) ?_
 refine lv_iload X.x X.b (dk DL_law_1 33 rfl) (lv_at hl 4 rfl) ?_
 refine lv_iconst (v := 1) X.x X.b (dk DL_law_1 34 rfl) (by decide) ?_
 refine lv_iadd X.x X.b (dk DL_law_1 35 rfl) ?_
 refine lw_sld X hH hX hbl hbA g1.1 g1.2 (dk DL_law_1 36 rfl) ?_
 refine mr_ci0 hH ⟨rfl, rfl⟩ (mr_runV (As := [.int A1]) (rest := []) X hH hR hroot OX12.1 kM_L_127 kI_X12_world kS_X12_world kN_X12 kC_X12_world hd_X12_world ⟨Nat.le_of_ble_eq_true rfl, Nat.le_of_ble_eq_true rfl⟩ rfl hl.1 (Nat.le_of_ble_eq_true rfl) (dk DL_law_1 37 rfl) ⟨room_le3 (c := cells + 161) (b := rm_X12_world.cells) (K := 601024) rfl hc, room_le3 (c := slots + 7887) (b := rm_X12_world.slots) (K := 7293034) rfl hs⟩) (fun r2 h2 H locs hp2 hH => ?_)
 replace hp2 : r2 = bv ∧ h2 = oset LX12 G q x h1 := hp2
 obtain ⟨e1, e2⟩ := hp2
 subst e2
 refine lv_istore (lv' := [(6, .int r2), (0, .ref bS), (1, .ref a), (2, .ref (q 53)), (3, .ref ao), (4, .int x4), (5, .int r)]) X.x X.b (dk DL_law_1 38 rfl) hl (by decide) rfl (fun ls hl => ?_)
 replace hl : lv_has ls 8 [(0, .ref bS), (1, .ref a), (2, .ref (q 53)), (3, .ref ao), (4, .int x4), (5, .int r), (6, .int r2)] := lv_sub hl [1, 2, 3, 4, 5, 6, 0] rfl
 refine lv_aload_n X.x X.b (dk DL_law_1 39 rfl) rfl (lv_at hl 2 rfl) ?_
 refine mr_ci0 hH ⟨rfl, rfl⟩ (mr_runV (As := []) (rest := []) X hH (c_X12_thrown (l := l) (G := G) (h := h1) hq (st := x) (x := x.1 2) rfl) hroot2 OX12.1 kM_L_128 kI_X12_thrown kS_X12_thrown kN_X12 kC_X12_thrown hd_X12_thrown ⟨Nat.le_of_ble_eq_true rfl, Nat.le_of_ble_eq_true rfl⟩ rfl hl.1 (Nat.le_of_ble_eq_true rfl) (dk DL_law_1 40 rfl) ⟨room_le3 (c := cells + 161) (b := rm_X12_thrown.cells) (K := 601024) rfl hc, room_le3 (c := slots + 7887) (b := rm_X12_thrown.slots) (K := 7293034) rfl hs⟩) (fun r3 h3 H locs hp3 hH => ?_)
 obtain ⟨e3, e4⟩ := hp3
 subst e4
 refine lv_iload X.x X.b (dk DL_law_1 41 rfl) (lv_at hl 5 rfl) ?_
 refine lv_icmp_eq (tgt := 353) X.x X.b (dk DL_law_1 42 rfl) (by decide) (fun _ => ?_) (fun z => absurd (e3.trans hx2) z)
 refine lv_iload X.x X.b (dk DL_law_1 45 rfl) (lv_at hl 5 rfl) ?_
 refine lv_if_ne (tgt := 370) X.x X.b (dk DL_law_1 46 rfl) (by decide) (fun c0 => ?_) (fun c0 => ?_)
 · refine lv_goto (tgt := 2497) X.x X.b (dk DL_law_1 56 rfl) (by decide) ?_
   exact kk _ _ _ _ hJ2 hH (lv_sub hl [0, 1, 2, 3, 4] rfl)
 · refine lv_aload_n X.x X.b (dk DL_law_1 47 rfl) rfl (lv_at hl 3 rfl) ?_
   refine lv_iconst (v := 0) X.x X.b (dk DL_law_1 48 rfl) (by decide) ?_
   have hr0 : r = 0 := by first | exact c0 | exact Decidable.not_not.mp c0
   refine mr_lald X hH hfo (show vp_in (nI 0) 1 from vp_in_nI (by decide) (by decide)) (dk DL_law_1 49 rfl) ?_
   rw [show ((0 : Int32).toNatClampNeg) = 0 from rfl]
   refine lv_iload X.x X.b (dk DL_law_1 50 rfl) (lv_at hl 6 rfl) ?_
   refine lv_i2l X.x X.b (dk DL_law_1 51 rfl) rfl ?_
   refine W.lcmp X.x X.b (dk DL_law_1 52 rfl) ?_
   refine lv_if_eq (tgt := 370) X.x X.b (dk DL_law_1 53 rfl) (by decide) (fun _ => ?_) (fun z => absurd ((lg_cmp_eq _ _).mpr ((hv hr0).trans (by rw [e1]))) z)
   refine lv_goto (tgt := 2497) X.x X.b (dk DL_law_1 56 rfl) (by decide) ?_
   exact kk _ _ _ _ hJ2 hH (lv_sub hl [0, 1, 2, 3, 4] rfl)
set_option maxHeartbeats 4000000 in
set_option maxRecDepth 100000 in
theorem lc_fault {p : Program} {l : Launch} {e : Env} {s : State} {m : MethodId} {args : Array Value} {below : List Frame} {meth : Method} {c : Code} {G : mG} {L : Nat} {xs : Nat → Int32} {bS a b ao : Nat} (X : mX G p m c code 8 s args RL) (hX : va_X bS L xs s s.heap) (hbl : bS < s.heap.size) (hbA : ¬ mA G bS) {J : mM → Prop} (hJa : ∀ m, J m → ∃ fs, m a = some (.inr (LX11.1, fs))) (hAg : Ag_fault l G J a b ao) {x4 A1 A2 A3 A4 A5 : Int32} (g1 : vp_in (x4 + 1) L ∧ xs (x4 + 1).toNatClampNeg = A1) (g2 : vp_in (x4 + 2) L ∧ xs (x4 + 2).toNatClampNeg = A2) (g3 : vp_in (x4 + 3) L ∧ xs (x4 + 3).toNatClampNeg = A3) (g4 : vp_in (x4 + 4) L ∧ xs (x4 + 4).toNatClampNeg = A4) (g5 : vp_in (x4 + 5) L ∧ xs (x4 + 5).toNatClampNeg = A5) {mm : mM} {H : Heap} {locs : List Loc} {ls : Array Slot} (hJ : J mm) (hH : mH G mm s.heap H locs) (hl : lv_has ls 8 [(0, .ref bS), (1, .ref a), (2, .ref b), (3, .ref ao), (4, .int x4)]) {cells slots : Nat} (hc : cells + 161 ≤ 601024) (hs : slots + 7887 ≤ 7293034) {Q : State → Prop}
    (kk : ∀ (mm : mM) (H : Heap) (locs : List Loc) (ls : Array Slot), J mm → mH G mm s.heap H locs → lv_has ls 8 [(0, .ref bS), (1, .ref a), (2, .ref b), (3, .ref ao), (4, .int x4)] → W p l e room_1 s m args below meth c H locs (cells + 161) (slots + 7887) Q (F0 m 2497 ls [])) :
    W p l e room_1 s m args below meth c H locs cells slots Q (F0 m 373 ls []) := by
 refine lv_aload_n X.x X.b (dk DL_law_1 57 rfl) rfl (lv_at hl 1 rfl) ?_
 refine lv_aload_n X.x X.b (dk DL_law_1 58 rfl) rfl (lv_at hl 0 rfl) ?_
 refine lv_iload X.x X.b (dk DL_law_1 59 rfl) (lv_at hl 4 rfl) ?_
 refine lv_iconst (v := 1) X.x X.b (dk DL_law_2 0 rfl) (by decide) ?_
 refine lv_iadd X.x X.b (dk DL_law_2 1 rfl) ?_
 refine lw_sld X hH hX hbl hbA g1.1 g1.2 (dk DL_law_2 2 rfl) ?_
 obtain ⟨Pm, hC, hP⟩ := hAg mm A1 hJ
 obtain ⟨fs, ha⟩ := hJa mm hJ
 refine mr_ci hH (mr_runV (As := [.int A1]) (rest := []) X hH hC ha OX11.1 kM_L_132 kI_X11_fault kS_X11_fault kN_X11 kC_X11_fault hd_X11_fault ⟨Nat.le_of_ble_eq_true rfl, Nat.le_of_ble_eq_true rfl⟩ rfl hl.1 (Nat.le_of_ble_eq_true rfl) (dk DL_law_2 3 rfl) ⟨room_le1 (a := rm_X11_fault.cells) (x := 0) (K := 601024) rfl (by omega), room_le1 (a := rm_X11_fault.slots) (x := 0) (K := 7293034) rfl (by omega)⟩) (fun r h1 H locs hp hH => ?_)
 obtain ⟨q, st, x, hqb, hq, hm, hF, hJ2⟩ := hP r h1 hp
 refine W.widen (k := cells + 161) (n := slots + 7887) (room_le1 (a := rm_X11_fault.cells) (x := 0) rfl (by omega)) (room_le1 (a := rm_X11_fault.slots) (x := 0) rfl (by omega)) ?_
 subst hqb
 have hR := c_X12_fault (l := l) (G := G) (h := h1) hq hF
 rw [hm] at hR
 have hroot := (oset_at (G := G) (st := st) (h := h1) hq (Nat.le_refl _) ohas_N).trans (congrArg some ocell_N)
 rw [hm] at hroot
 have hroot2 := (oset_at (G := G) (st := x) (h := h1) hq (Nat.le_refl _) ohas_N).trans (congrArg some ocell_N)
 refine lv_aload_n X.x X.b (dk DL_law_2 4 rfl) rfl (lv_at hl 2 rfl) ?_
 refine lv_aload_n X.x X.b (dk DL_law_2 5 rfl) rfl (lv_at hl 0 rfl) ?_
 refine lv_iload X.x X.b (dk DL_law_2 6 rfl) (lv_at hl 4 rfl) ?_
 refine lv_iconst (v := 1) X.x X.b (dk DL_law_2 7 rfl) (by decide) ?_
 refine lv_iadd X.x X.b (dk DL_law_2 8 rfl) ?_
 refine lw_sld X hH hX hbl hbA g1.1 g1.2 (dk DL_law_2 9 rfl) ?_
 refine mr_ci0 hH ⟨rfl, rfl⟩ (mr_runV (As := [.int A1]) (rest := [.int r]) X hH hR hroot OX12.1 kM_L_135 kI_X12_fault kS_X12_fault kN_X12 kC_X12_fault hd_X12_fault ⟨Nat.le_of_ble_eq_true rfl, Nat.le_of_ble_eq_true rfl⟩ rfl hl.1 (Nat.le_of_ble_eq_true rfl) (dk DL_law_2 10 rfl) ⟨room_le3 (c := cells + 161) (b := rm_X12_fault.cells) (K := 601024) rfl hc, room_le3 (c := slots + 7887) (b := rm_X12_fault.slots) (K := 7293034) rfl hs⟩) (fun r2 h2 H locs hp2 hH => ?_)
 replace hp2 : r2 = r ∧ h2 = oset LX12 G q x h1 := hp2
 obtain ⟨e1, e2⟩ := hp2
 subst e2
 refine lv_icmp_eq (tgt := 2497) X.x X.b (dk DL_law_2 11 rfl) (by decide) (fun _ => ?_) (fun z => absurd e1.symm z)
 exact kk _ _ _ _ hJ2 hH (lv_sub hl [0, 1, 2, 3, 4] rfl)
set_option maxHeartbeats 4000000 in
set_option maxRecDepth 100000 in
theorem lc_line {p : Program} {l : Launch} {e : Env} {s : State} {m : MethodId} {args : Array Value} {below : List Frame} {meth : Method} {c : Code} {G : mG} {L : Nat} {xs : Nat → Int32} {bS a b ao : Nat} (X : mX G p m c code 8 s args RL) (hX : va_X bS L xs s s.heap) (hbl : bS < s.heap.size) (hbA : ¬ mA G bS) {J : mM → Prop} (hJa : ∀ m, J m → ∃ fs, m a = some (.inr (LX11.1, fs))) (hAg : Ag_line l G J a b ao) {x4 A1 A2 A3 A4 A5 : Int32} (g1 : vp_in (x4 + 1) L ∧ xs (x4 + 1).toNatClampNeg = A1) (g2 : vp_in (x4 + 2) L ∧ xs (x4 + 2).toNatClampNeg = A2) (g3 : vp_in (x4 + 3) L ∧ xs (x4 + 3).toNatClampNeg = A3) (g4 : vp_in (x4 + 4) L ∧ xs (x4 + 4).toNatClampNeg = A4) (g5 : vp_in (x4 + 5) L ∧ xs (x4 + 5).toNatClampNeg = A5) {mm : mM} {H : Heap} {locs : List Loc} {ls : Array Slot} (hJ : J mm) (hH : mH G mm s.heap H locs) (hl : lv_has ls 8 [(0, .ref bS), (1, .ref a), (2, .ref b), (3, .ref ao), (4, .int x4)]) {cells slots : Nat} (hc : cells + 161 ≤ 601024) (hs : slots + 7887 ≤ 7293034) {Q : State → Prop}
    (kk : ∀ (mm : mM) (H : Heap) (locs : List Loc) (ls : Array Slot), J mm → mH G mm s.heap H locs → lv_has ls 8 [(0, .ref bS), (1, .ref a), (2, .ref b), (3, .ref ao), (4, .int x4)] → W p l e room_1 s m args below meth c H locs (cells + 161) (slots + 7887) Q (F0 m 2497 ls [])) :
    W p l e room_1 s m args below meth c H locs cells slots Q (F0 m 398 ls []) := by
 refine lv_aload_n X.x X.b (dk DL_law_2 14 rfl) rfl (lv_at hl 1 rfl) ?_
 refine lv_aload_n X.x X.b (dk DL_law_2 15 rfl) rfl (lv_at hl 0 rfl) ?_
 refine lv_iload X.x X.b (dk DL_law_2 16 rfl) (lv_at hl 4 rfl) ?_
 refine lv_iconst (v := 1) X.x X.b (dk DL_law_2 17 rfl) (by decide) ?_
 refine lv_iadd X.x X.b (dk DL_law_2 18 rfl) ?_
 refine lw_sld X hH hX hbl hbA g1.1 g1.2 (dk DL_law_2 19 rfl) ?_
 refine lv_aload_n X.x X.b (dk DL_law_2 20 rfl) rfl (lv_at hl 3 rfl) ?_
 obtain ⟨Pm, hC, hP⟩ := hAg mm A1 hJ
 refine mr_xi hH (mr_hrunS (As := [.ref a, .int A1, .ref ao]) (rest := []) X hH hC kM_L_136 kT_L_line kN_L kW_L_line hd_L_line ⟨Nat.le_of_ble_eq_true rfl, Nat.le_of_ble_eq_true rfl⟩ rfl hl.1 (Nat.le_of_ble_eq_true rfl) (dk DL_law_2 21 rfl) ⟨room_le1 (a := rm_L_line.cells) (x := 1) (K := 601024) rfl (by omega), room_le1 (a := rm_L_line.slots) (x := 6) (K := 7293034) rfl (by omega)⟩) (fun E h1 q9 H locs hp hH hth => hp.elim) (fun r h1 H locs hp hH => ?_)
 obtain ⟨q, st, x, bv, fo, hqb, hq, hm, hF, hx2, hfo, hv, hJ2⟩ := hP r h1 hp
 refine W.widen (k := cells + 161) (n := slots + 7887) (room_le1 (a := rm_L_line.cells) (x := 1) rfl (by omega)) (room_le1 (a := rm_L_line.slots) (x := 6) rfl (by omega)) ?_
 subst hqb
 have hR := c_X12_line (l := l) (G := G) (h := h1) hq hF
 rw [hm] at hR
 have hroot := (oset_at (G := G) (st := st) (h := h1) hq (Nat.le_refl _) ohas_N).trans (congrArg some ocell_N)
 rw [hm] at hroot
 have hroot2 := (oset_at (G := G) (st := x) (h := h1) hq (Nat.le_refl _) ohas_N).trans (congrArg some ocell_N)
 refine lv_istore (lv' := [(5, .int r), (0, .ref bS), (1, .ref a), (2, .ref (q 53)), (3, .ref ao), (4, .int x4)]) X.x X.b (dk DL_law_2 22 rfl) hl (by decide) rfl (fun ls hl => ?_)
 replace hl : lv_has ls 8 [(0, .ref bS), (1, .ref a), (2, .ref (q 53)), (3, .ref ao), (4, .int x4), (5, .int r)] := lv_sub hl [1, 2, 3, 4, 5, 0] rfl
 refine lv_aload_n X.x X.b (dk DL_law_2 23 rfl) rfl (lv_at hl 2 rfl) ?_
 refine lv_aload_n X.x X.b (dk DL_law_2 24 rfl) rfl (lv_at hl 0 rfl) ?_
 refine lv_iload X.x X.b (dk DL_law_2 25 rfl) (lv_at hl 4 rfl) ?_
 refine lv_iconst (v := 1) X.x X.b (dk DL_law_2 26 rfl) (by decide) ?_
 refine lv_iadd X.x X.b (dk DL_law_2 27 rfl) ?_
 refine lw_sld X hH hX hbl hbA g1.1 g1.2 (dk DL_law_2 28 rfl) ?_
 refine mr_cl0 hH ⟨rfl, rfl⟩ (mr_runV (As := [.int A1]) (rest := []) X hH hR hroot OX12.1 kM_L_138 kI_X12_line kS_X12_line kN_X12 kC_X12_line hd_X12_line ⟨Nat.le_of_ble_eq_true rfl, Nat.le_of_ble_eq_true rfl⟩ rfl hl.1 (Nat.le_of_ble_eq_true rfl) (dk DL_law_2 29 rfl) ⟨room_le3 (c := cells + 161) (b := rm_X12_line.cells) (K := 601024) rfl hc, room_le3 (c := slots + 7887) (b := rm_X12_line.slots) (K := 7293034) rfl hs⟩) (fun r2 h2 H locs hp2 hH => ?_)
 replace hp2 : r2 = bv ∧ h2 = oset LX12 G q x h1 := hp2
 obtain ⟨e1, e2⟩ := hp2
 subst e2
 refine lv_lstore (lv' := [(6, .long r2), (0, .ref bS), (1, .ref a), (2, .ref (q 53)), (3, .ref ao), (4, .int x4), (5, .int r)]) X.x X.b (dk DL_law_2 30 rfl) hl (by decide) rfl (fun ls hl => ?_)
 replace hl : lv_has ls 8 [(0, .ref bS), (1, .ref a), (2, .ref (q 53)), (3, .ref ao), (4, .int x4), (5, .int r), (6, .long r2)] := lv_sub hl [1, 2, 3, 4, 5, 6, 0] rfl
 refine lv_aload_n X.x X.b (dk DL_law_2 31 rfl) rfl (lv_at hl 2 rfl) ?_
 refine mr_ci0 hH ⟨rfl, rfl⟩ (mr_runV (As := []) (rest := []) X hH (c_X12_thrown (l := l) (G := G) (h := h1) hq (st := x) (x := x.1 2) rfl) hroot2 OX12.1 kM_L_128 kI_X12_thrown kS_X12_thrown kN_X12 kC_X12_thrown hd_X12_thrown ⟨Nat.le_of_ble_eq_true rfl, Nat.le_of_ble_eq_true rfl⟩ rfl hl.1 (Nat.le_of_ble_eq_true rfl) (dk DL_law_2 32 rfl) ⟨room_le3 (c := cells + 161) (b := rm_X12_thrown.cells) (K := 601024) rfl hc, room_le3 (c := slots + 7887) (b := rm_X12_thrown.slots) (K := 7293034) rfl hs⟩) (fun r3 h3 H locs hp3 hH => ?_)
 obtain ⟨e3, e4⟩ := hp3
 subst e4
 refine lv_iload X.x X.b (dk DL_law_2 33 rfl) (lv_at hl 5 rfl) ?_
 refine lv_icmp_eq (tgt := 434) X.x X.b (dk DL_law_2 34 rfl) (by decide) (fun _ => ?_) (fun z => absurd (e3.trans hx2) z)
 refine lv_iload X.x X.b (dk DL_law_2 37 rfl) (lv_at hl 5 rfl) ?_
 refine lv_if_ne (tgt := 450) X.x X.b (dk DL_law_2 38 rfl) (by decide) (fun c0 => ?_) (fun c0 => ?_)
 · refine lv_goto (tgt := 2497) X.x X.b (dk DL_law_2 47 rfl) (by decide) ?_
   exact kk _ _ _ _ hJ2 hH (lv_sub hl [0, 1, 2, 3, 4] rfl)
 · refine lv_aload_n X.x X.b (dk DL_law_2 39 rfl) rfl (lv_at hl 3 rfl) ?_
   refine lv_iconst (v := 0) X.x X.b (dk DL_law_2 40 rfl) (by decide) ?_
   have hr0 : r = 0 := by first | exact c0 | exact Decidable.not_not.mp c0
   refine mr_lald X hH hfo (show vp_in (nI 0) 1 from vp_in_nI (by decide) (by decide)) (dk DL_law_2 41 rfl) ?_
   rw [show ((0 : Int32).toNatClampNeg) = 0 from rfl]
   refine lv_lload X.x X.b (dk DL_law_2 42 rfl) (lv_at hl 6 rfl) ?_
   refine W.lcmp X.x X.b (dk DL_law_2 43 rfl) ?_
   refine lv_if_eq (tgt := 450) X.x X.b (dk DL_law_2 44 rfl) (by decide) (fun _ => ?_) (fun z => absurd ((lg_cmp_eq _ _).mpr ((hv hr0).trans (by rw [e1]))) z)
   refine lv_goto (tgt := 2497) X.x X.b (dk DL_law_2 47 rfl) (by decide) ?_
   exact kk _ _ _ _ hJ2 hH (lv_sub hl [0, 1, 2, 3, 4] rfl)
set_option maxHeartbeats 4000000 in
set_option maxRecDepth 100000 in
theorem lc_through {p : Program} {l : Launch} {e : Env} {s : State} {m : MethodId} {args : Array Value} {below : List Frame} {meth : Method} {c : Code} {G : mG} {L : Nat} {xs : Nat → Int32} {bS a b ao : Nat} (X : mX G p m c code 8 s args RL) (hX : va_X bS L xs s s.heap) (hbl : bS < s.heap.size) (hbA : ¬ mA G bS) {J : mM → Prop} (hJa : ∀ m, J m → ∃ fs, m a = some (.inr (LX11.1, fs))) (hAg : Ag_through l G J a b ao) {x4 A1 A2 A3 A4 A5 : Int32} (g1 : vp_in (x4 + 1) L ∧ xs (x4 + 1).toNatClampNeg = A1) (g2 : vp_in (x4 + 2) L ∧ xs (x4 + 2).toNatClampNeg = A2) (g3 : vp_in (x4 + 3) L ∧ xs (x4 + 3).toNatClampNeg = A3) (g4 : vp_in (x4 + 4) L ∧ xs (x4 + 4).toNatClampNeg = A4) (g5 : vp_in (x4 + 5) L ∧ xs (x4 + 5).toNatClampNeg = A5) {mm : mM} {H : Heap} {locs : List Loc} {ls : Array Slot} (hJ : J mm) (hH : mH G mm s.heap H locs) (hl : lv_has ls 8 [(0, .ref bS), (1, .ref a), (2, .ref b), (3, .ref ao), (4, .int x4)]) {cells slots : Nat} (hc : cells + 161 ≤ 601024) (hs : slots + 7887 ≤ 7293034) {Q : State → Prop}
    (kk : ∀ (mm : mM) (H : Heap) (locs : List Loc) (ls : Array Slot), J mm → mH G mm s.heap H locs → lv_has ls 8 [(0, .ref bS), (1, .ref a), (2, .ref b), (3, .ref ao), (4, .int x4)] → W p l e room_1 s m args below meth c H locs (cells + 161) (slots + 7887) Q (F0 m 2497 ls [])) :
    W p l e room_1 s m args below meth c H locs cells slots Q (F0 m 453 ls []) := by
 refine lv_aload_n X.x X.b (dk DL_law_2 48 rfl) rfl (lv_at hl 1 rfl) ?_
 refine lv_aload_n X.x X.b (dk DL_law_2 49 rfl) rfl (lv_at hl 0 rfl) ?_
 refine lv_iload X.x X.b (dk DL_law_2 50 rfl) (lv_at hl 4 rfl) ?_
 refine lv_iconst (v := 1) X.x X.b (dk DL_law_2 51 rfl) (by decide) ?_
 refine lv_iadd X.x X.b (dk DL_law_2 52 rfl) ?_
 refine lw_sld X hH hX hbl hbA g1.1 g1.2 (dk DL_law_2 53 rfl) ?_
 refine lv_aload_n X.x X.b (dk DL_law_2 54 rfl) rfl (lv_at hl 3 rfl) ?_
 obtain ⟨Pm, hC, hP⟩ := hAg mm A1 hJ
 refine mr_xi hH (mr_hrunS (As := [.ref a, .int A1, .ref ao]) (rest := []) X hH hC kM_L_139 kT_L_through kN_L kW_L_through hd_L_through ⟨Nat.le_of_ble_eq_true rfl, Nat.le_of_ble_eq_true rfl⟩ rfl hl.1 (Nat.le_of_ble_eq_true rfl) (dk DL_law_2 55 rfl) ⟨room_le1 (a := rm_L_through.cells) (x := 1) (K := 601024) rfl (by omega), room_le1 (a := rm_L_through.slots) (x := 6) (K := 7293034) rfl (by omega)⟩) (fun E h1 q9 H locs hp hH hth => hp.elim) (fun r h1 H locs hp hH => ?_)
 obtain ⟨q, st, x, bv, fo, hqb, hq, hm, hF, hx2, hfo, hv, hJ2⟩ := hP r h1 hp
 refine W.widen (k := cells + 161) (n := slots + 7887) (room_le1 (a := rm_L_through.cells) (x := 1) rfl (by omega)) (room_le1 (a := rm_L_through.slots) (x := 6) rfl (by omega)) ?_
 subst hqb
 have hR := c_X12_through (l := l) (G := G) (h := h1) hq hF
 rw [hm] at hR
 have hroot := (oset_at (G := G) (st := st) (h := h1) hq (Nat.le_refl _) ohas_N).trans (congrArg some ocell_N)
 rw [hm] at hroot
 have hroot2 := (oset_at (G := G) (st := x) (h := h1) hq (Nat.le_refl _) ohas_N).trans (congrArg some ocell_N)
 refine lv_istore (lv' := [(5, .int r), (0, .ref bS), (1, .ref a), (2, .ref (q 53)), (3, .ref ao), (4, .int x4)]) X.x X.b (dk DL_law_2 56 rfl) hl (by decide) rfl (fun ls hl => ?_)
 replace hl : lv_has ls 8 [(0, .ref bS), (1, .ref a), (2, .ref (q 53)), (3, .ref ao), (4, .int x4), (5, .int r)] := lv_sub hl [1, 2, 3, 4, 5, 0] rfl
 refine lv_aload_n X.x X.b (dk DL_law_2 57 rfl) rfl (lv_at hl 2 rfl) ?_
 refine lv_aload_n X.x X.b (dk DL_law_2 58 rfl) rfl (lv_at hl 0 rfl) ?_
 refine lv_iload X.x X.b (dk DL_law_2 59 rfl) (lv_at hl 4 rfl) ?_
 refine lv_iconst (v := 1) X.x X.b (dk DL_law_3 0 rfl) (by decide) ?_
 refine lv_iadd X.x X.b (dk DL_law_3 1 rfl) ?_
 refine lw_sld X hH hX hbl hbA g1.1 g1.2 (dk DL_law_3 2 rfl) ?_
 refine mr_cl0 hH ⟨rfl, rfl⟩ (mr_runV (As := [.int A1]) (rest := []) X hH hR hroot OX12.1 kM_L_141 kI_X12_through kS_X12_through kN_X12 kC_X12_through hd_X12_through ⟨Nat.le_of_ble_eq_true rfl, Nat.le_of_ble_eq_true rfl⟩ rfl hl.1 (Nat.le_of_ble_eq_true rfl) (dk DL_law_3 3 rfl) ⟨room_le3 (c := cells + 161) (b := rm_X12_through.cells) (K := 601024) rfl hc, room_le3 (c := slots + 7887) (b := rm_X12_through.slots) (K := 7293034) rfl hs⟩) (fun r2 h2 H locs hp2 hH => ?_)
 replace hp2 : r2 = bv ∧ h2 = oset LX12 G q x h1 := hp2
 obtain ⟨e1, e2⟩ := hp2
 subst e2
 refine lv_lstore (lv' := [(6, .long r2), (0, .ref bS), (1, .ref a), (2, .ref (q 53)), (3, .ref ao), (4, .int x4), (5, .int r)]) X.x X.b (dk DL_law_3 4 rfl) hl (by decide) rfl (fun ls hl => ?_)
 replace hl : lv_has ls 8 [(0, .ref bS), (1, .ref a), (2, .ref (q 53)), (3, .ref ao), (4, .int x4), (5, .int r), (6, .long r2)] := lv_sub hl [1, 2, 3, 4, 5, 6, 0] rfl
 refine lv_aload_n X.x X.b (dk DL_law_3 5 rfl) rfl (lv_at hl 2 rfl) ?_
 refine mr_ci0 hH ⟨rfl, rfl⟩ (mr_runV (As := []) (rest := []) X hH (c_X12_thrown (l := l) (G := G) (h := h1) hq (st := x) (x := x.1 2) rfl) hroot2 OX12.1 kM_L_128 kI_X12_thrown kS_X12_thrown kN_X12 kC_X12_thrown hd_X12_thrown ⟨Nat.le_of_ble_eq_true rfl, Nat.le_of_ble_eq_true rfl⟩ rfl hl.1 (Nat.le_of_ble_eq_true rfl) (dk DL_law_3 6 rfl) ⟨room_le3 (c := cells + 161) (b := rm_X12_thrown.cells) (K := 601024) rfl hc, room_le3 (c := slots + 7887) (b := rm_X12_thrown.slots) (K := 7293034) rfl hs⟩) (fun r3 h3 H locs hp3 hH => ?_)
 obtain ⟨e3, e4⟩ := hp3
 subst e4
 refine lv_iload X.x X.b (dk DL_law_3 7 rfl) (lv_at hl 5 rfl) ?_
 refine lv_icmp_eq (tgt := 489) X.x X.b (dk DL_law_3 8 rfl) (by decide) (fun _ => ?_) (fun z => absurd (e3.trans hx2) z)
 refine lv_iload X.x X.b (dk DL_law_3 11 rfl) (lv_at hl 5 rfl) ?_
 refine lv_if_ne (tgt := 505) X.x X.b (dk DL_law_3 12 rfl) (by decide) (fun c0 => ?_) (fun c0 => ?_)
 · refine lv_goto (tgt := 2497) X.x X.b (dk DL_law_3 21 rfl) (by decide) ?_
   exact kk _ _ _ _ hJ2 hH (lv_sub hl [0, 1, 2, 3, 4] rfl)
 · refine lv_aload_n X.x X.b (dk DL_law_3 13 rfl) rfl (lv_at hl 3 rfl) ?_
   refine lv_iconst (v := 0) X.x X.b (dk DL_law_3 14 rfl) (by decide) ?_
   have hr0 : r = 0 := by first | exact c0 | exact Decidable.not_not.mp c0
   refine mr_lald X hH hfo (show vp_in (nI 0) 1 from vp_in_nI (by decide) (by decide)) (dk DL_law_3 15 rfl) ?_
   rw [show ((0 : Int32).toNatClampNeg) = 0 from rfl]
   refine lv_lload X.x X.b (dk DL_law_3 16 rfl) (lv_at hl 6 rfl) ?_
   refine W.lcmp X.x X.b (dk DL_law_3 17 rfl) ?_
   refine lv_if_eq (tgt := 505) X.x X.b (dk DL_law_3 18 rfl) (by decide) (fun _ => ?_) (fun z => absurd ((lg_cmp_eq _ _).mpr ((hv hr0).trans (by rw [e1]))) z)
   refine lv_goto (tgt := 2497) X.x X.b (dk DL_law_3 21 rfl) (by decide) ?_
   exact kk _ _ _ _ hJ2 hH (lv_sub hl [0, 1, 2, 3, 4] rfl)
set_option maxHeartbeats 4000000 in
set_option maxRecDepth 100000 in
theorem lc_joined {p : Program} {l : Launch} {e : Env} {s : State} {m : MethodId} {args : Array Value} {below : List Frame} {meth : Method} {c : Code} {G : mG} {L : Nat} {xs : Nat → Int32} {bS a b ao : Nat} (X : mX G p m c code 8 s args RL) (hX : va_X bS L xs s s.heap) (hbl : bS < s.heap.size) (hbA : ¬ mA G bS) {J : mM → Prop} (hJa : ∀ m, J m → ∃ fs, m a = some (.inr (LX11.1, fs))) (hAg : Ag_joined l G J a b ao) {x4 A1 A2 A3 A4 A5 : Int32} (g1 : vp_in (x4 + 1) L ∧ xs (x4 + 1).toNatClampNeg = A1) (g2 : vp_in (x4 + 2) L ∧ xs (x4 + 2).toNatClampNeg = A2) (g3 : vp_in (x4 + 3) L ∧ xs (x4 + 3).toNatClampNeg = A3) (g4 : vp_in (x4 + 4) L ∧ xs (x4 + 4).toNatClampNeg = A4) (g5 : vp_in (x4 + 5) L ∧ xs (x4 + 5).toNatClampNeg = A5) {mm : mM} {H : Heap} {locs : List Loc} {ls : Array Slot} (hJ : J mm) (hH : mH G mm s.heap H locs) (hl : lv_has ls 8 [(0, .ref bS), (1, .ref a), (2, .ref b), (3, .ref ao), (4, .int x4)]) {cells slots : Nat} (hc : cells + 161 ≤ 601024) (hs : slots + 7887 ≤ 7293034) {Q : State → Prop}
    (kk : ∀ (mm : mM) (H : Heap) (locs : List Loc) (ls : Array Slot), J mm → mH G mm s.heap H locs → lv_has ls 8 [(0, .ref bS), (1, .ref a), (2, .ref b), (3, .ref ao), (4, .int x4)] → W p l e room_1 s m args below meth c H locs (cells + 161) (slots + 7887) Q (F0 m 2497 ls [])) :
    W p l e room_1 s m args below meth c H locs cells slots Q (F0 m 508 ls []) := by
 refine lv_aload_n X.x X.b (dk DL_law_3 22 rfl) rfl (lv_at hl 1 rfl) ?_
 refine lv_aload_n X.x X.b (dk DL_law_3 23 rfl) rfl (lv_at hl 0 rfl) ?_
 refine lv_iload X.x X.b (dk DL_law_3 24 rfl) (lv_at hl 4 rfl) ?_
 refine lv_iconst (v := 1) X.x X.b (dk DL_law_3 25 rfl) (by decide) ?_
 refine lv_iadd X.x X.b (dk DL_law_3 26 rfl) ?_
 refine lw_sld X hH hX hbl hbA g1.1 g1.2 (dk DL_law_3 27 rfl) ?_
 refine lv_aload_n X.x X.b (dk DL_law_3 28 rfl) rfl (lv_at hl 0 rfl) ?_
 refine lv_iload X.x X.b (dk DL_law_3 29 rfl) (lv_at hl 4 rfl) ?_
 refine lv_iconst (v := 2) X.x X.b (dk DL_law_3 30 rfl) (by decide) ?_
 refine lv_iadd X.x X.b (dk DL_law_3 31 rfl) ?_
 refine lw_sld X hH hX hbl hbA g2.1 g2.2 (dk DL_law_3 32 rfl) ?_
 refine lv_aload_n X.x X.b (dk DL_law_3 33 rfl) rfl (lv_at hl 3 rfl) ?_
 obtain ⟨Pm, hC, hP⟩ := hAg mm A1 A2 hJ
 refine mr_xi hH (mr_hrunS (As := [.ref a, .int A1, .int A2, .ref ao]) (rest := []) X hH hC kM_L_142 kT_L_joined kN_L kW_L_joined hd_L_joined ⟨Nat.le_of_ble_eq_true rfl, Nat.le_of_ble_eq_true rfl⟩ rfl hl.1 (Nat.le_of_ble_eq_true rfl) (dk DL_law_3 34 rfl) ⟨room_le1 (a := rm_L_joined.cells) (x := 2) (K := 601024) rfl (by omega), room_le1 (a := rm_L_joined.slots) (x := 12) (K := 7293034) rfl (by omega)⟩) (fun E h1 q9 H locs hp hH hth => hp.elim) (fun r h1 H locs hp hH => ?_)
 obtain ⟨q, st, x, bv, fo, hqb, hq, hm, hF, hx2, hfo, hv, hJ2⟩ := hP r h1 hp
 refine W.widen (k := cells + 161) (n := slots + 7887) (room_le1 (a := rm_L_joined.cells) (x := 2) rfl (by omega)) (room_le1 (a := rm_L_joined.slots) (x := 12) rfl (by omega)) ?_
 subst hqb
 have hR := c_X12_joined (l := l) (G := G) (h := h1) hq hF
 rw [hm] at hR
 have hroot := (oset_at (G := G) (st := st) (h := h1) hq (Nat.le_refl _) ohas_N).trans (congrArg some ocell_N)
 rw [hm] at hroot
 have hroot2 := (oset_at (G := G) (st := x) (h := h1) hq (Nat.le_refl _) ohas_N).trans (congrArg some ocell_N)
 refine lv_istore (lv' := [(5, .int r), (0, .ref bS), (1, .ref a), (2, .ref (q 53)), (3, .ref ao), (4, .int x4)]) X.x X.b (dk DL_law_3 35 rfl) hl (by decide) rfl (fun ls hl => ?_)
 replace hl : lv_has ls 8 [(0, .ref bS), (1, .ref a), (2, .ref (q 53)), (3, .ref ao), (4, .int x4), (5, .int r)] := lv_sub hl [1, 2, 3, 4, 5, 0] rfl
 refine lv_aload_n X.x X.b (dk DL_law_3 36 rfl) rfl (lv_at hl 2 rfl) ?_
 refine lv_aload_n X.x X.b (dk DL_law_3 37 rfl) rfl (lv_at hl 0 rfl) ?_
 refine lv_iload X.x X.b (dk DL_law_3 38 rfl) (lv_at hl 4 rfl) ?_
 refine lv_iconst (v := 1) X.x X.b (dk DL_law_3 39 rfl) (by decide) ?_
 refine lv_iadd X.x X.b (dk DL_law_3 40 rfl) ?_
 refine lw_sld X hH hX hbl hbA g1.1 g1.2 (dk DL_law_3 41 rfl) ?_
 refine lv_aload_n X.x X.b (dk DL_law_3 42 rfl) rfl (lv_at hl 0 rfl) ?_
 refine lv_iload X.x X.b (dk DL_law_3 43 rfl) (lv_at hl 4 rfl) ?_
 refine lv_iconst (v := 2) X.x X.b (dk DL_law_3 44 rfl) (by decide) ?_
 refine lv_iadd X.x X.b (dk DL_law_3 45 rfl) ?_
 refine lw_sld X hH hX hbl hbA g2.1 g2.2 (dk DL_law_3 46 rfl) ?_
 refine mr_ci0 hH ⟨rfl, rfl⟩ (mr_runV (As := [.int A1, .int A2]) (rest := []) X hH hR hroot OX12.1 kM_L_145 kI_X12_joined kS_X12_joined kN_X12 kC_X12_joined hd_X12_joined ⟨Nat.le_of_ble_eq_true rfl, Nat.le_of_ble_eq_true rfl⟩ rfl hl.1 (Nat.le_of_ble_eq_true rfl) (dk DL_law_3 47 rfl) ⟨room_le3 (c := cells + 161) (b := rm_X12_joined.cells) (K := 601024) rfl hc, room_le3 (c := slots + 7887) (b := rm_X12_joined.slots) (K := 7293034) rfl hs⟩) (fun r2 h2 H locs hp2 hH => ?_)
 replace hp2 : r2 = bv ∧ h2 = oset LX12 G q x h1 := hp2
 obtain ⟨e1, e2⟩ := hp2
 subst e2
 refine lv_istore (lv' := [(6, .int r2), (0, .ref bS), (1, .ref a), (2, .ref (q 53)), (3, .ref ao), (4, .int x4), (5, .int r)]) X.x X.b (dk DL_law_3 48 rfl) hl (by decide) rfl (fun ls hl => ?_)
 replace hl : lv_has ls 8 [(0, .ref bS), (1, .ref a), (2, .ref (q 53)), (3, .ref ao), (4, .int x4), (5, .int r), (6, .int r2)] := lv_sub hl [1, 2, 3, 4, 5, 6, 0] rfl
 refine lv_aload_n X.x X.b (dk DL_law_3 49 rfl) rfl (lv_at hl 2 rfl) ?_
 refine mr_ci0 hH ⟨rfl, rfl⟩ (mr_runV (As := []) (rest := []) X hH (c_X12_thrown (l := l) (G := G) (h := h1) hq (st := x) (x := x.1 2) rfl) hroot2 OX12.1 kM_L_128 kI_X12_thrown kS_X12_thrown kN_X12 kC_X12_thrown hd_X12_thrown ⟨Nat.le_of_ble_eq_true rfl, Nat.le_of_ble_eq_true rfl⟩ rfl hl.1 (Nat.le_of_ble_eq_true rfl) (dk DL_law_3 50 rfl) ⟨room_le3 (c := cells + 161) (b := rm_X12_thrown.cells) (K := 601024) rfl hc, room_le3 (c := slots + 7887) (b := rm_X12_thrown.slots) (K := 7293034) rfl hs⟩) (fun r3 h3 H locs hp3 hH => ?_)
 obtain ⟨e3, e4⟩ := hp3
 subst e4
 refine lv_iload X.x X.b (dk DL_law_3 51 rfl) (lv_at hl 5 rfl) ?_
 refine lv_icmp_eq (tgt := 556) X.x X.b (dk DL_law_3 52 rfl) (by decide) (fun _ => ?_) (fun z => absurd (e3.trans hx2) z)
 refine lv_iload X.x X.b (dk DL_law_3 55 rfl) (lv_at hl 5 rfl) ?_
 refine lv_if_ne (tgt := 573) X.x X.b (dk DL_law_3 56 rfl) (by decide) (fun c0 => ?_) (fun c0 => ?_)
 · refine lv_goto (tgt := 2497) X.x X.b (dk DL_law_4 6 rfl) (by decide) ?_
   exact kk _ _ _ _ hJ2 hH (lv_sub hl [0, 1, 2, 3, 4] rfl)
 · refine lv_aload_n X.x X.b (dk DL_law_3 57 rfl) rfl (lv_at hl 3 rfl) ?_
   refine lv_iconst (v := 0) X.x X.b (dk DL_law_3 58 rfl) (by decide) ?_
   have hr0 : r = 0 := by first | exact c0 | exact Decidable.not_not.mp c0
   refine mr_lald X hH hfo (show vp_in (nI 0) 1 from vp_in_nI (by decide) (by decide)) (dk DL_law_3 59 rfl) ?_
   rw [show ((0 : Int32).toNatClampNeg) = 0 from rfl]
   refine lv_iload X.x X.b (dk DL_law_4 0 rfl) (lv_at hl 6 rfl) ?_
   refine lv_i2l X.x X.b (dk DL_law_4 1 rfl) rfl ?_
   refine W.lcmp X.x X.b (dk DL_law_4 2 rfl) ?_
   refine lv_if_eq (tgt := 573) X.x X.b (dk DL_law_4 3 rfl) (by decide) (fun _ => ?_) (fun z => absurd ((lg_cmp_eq _ _).mpr ((hv hr0).trans (by rw [e1]))) z)
   refine lv_goto (tgt := 2497) X.x X.b (dk DL_law_4 6 rfl) (by decide) ?_
   exact kk _ _ _ _ hJ2 hH (lv_sub hl [0, 1, 2, 3, 4] rfl)
set_option maxHeartbeats 4000000 in
set_option maxRecDepth 100000 in
theorem lc_near {p : Program} {l : Launch} {e : Env} {s : State} {m : MethodId} {args : Array Value} {below : List Frame} {meth : Method} {c : Code} {G : mG} {L : Nat} {xs : Nat → Int32} {bS a b ao : Nat} (X : mX G p m c code 8 s args RL) (hX : va_X bS L xs s s.heap) (hbl : bS < s.heap.size) (hbA : ¬ mA G bS) {J : mM → Prop} (hJa : ∀ m, J m → ∃ fs, m a = some (.inr (LX11.1, fs))) (hAg : Ag_near l G J a b ao) {x4 A1 A2 A3 A4 A5 : Int32} (g1 : vp_in (x4 + 1) L ∧ xs (x4 + 1).toNatClampNeg = A1) (g2 : vp_in (x4 + 2) L ∧ xs (x4 + 2).toNatClampNeg = A2) (g3 : vp_in (x4 + 3) L ∧ xs (x4 + 3).toNatClampNeg = A3) (g4 : vp_in (x4 + 4) L ∧ xs (x4 + 4).toNatClampNeg = A4) (g5 : vp_in (x4 + 5) L ∧ xs (x4 + 5).toNatClampNeg = A5) {mm : mM} {H : Heap} {locs : List Loc} {ls : Array Slot} (hJ : J mm) (hH : mH G mm s.heap H locs) (hl : lv_has ls 8 [(0, .ref bS), (1, .ref a), (2, .ref b), (3, .ref ao), (4, .int x4)]) {cells slots : Nat} (hc : cells + 161 ≤ 601024) (hs : slots + 7887 ≤ 7293034) {Q : State → Prop}
    (kk : ∀ (mm : mM) (H : Heap) (locs : List Loc) (ls : Array Slot), J mm → mH G mm s.heap H locs → lv_has ls 8 [(0, .ref bS), (1, .ref a), (2, .ref b), (3, .ref ao), (4, .int x4)] → W p l e room_1 s m args below meth c H locs (cells + 161) (slots + 7887) Q (F0 m 2497 ls [])) :
    W p l e room_1 s m args below meth c H locs cells slots Q (F0 m 576 ls []) := by
 refine lv_aload_n X.x X.b (dk DL_law_4 7 rfl) rfl (lv_at hl 1 rfl) ?_
 refine lv_aload_n X.x X.b (dk DL_law_4 8 rfl) rfl (lv_at hl 0 rfl) ?_
 refine lv_iload X.x X.b (dk DL_law_4 9 rfl) (lv_at hl 4 rfl) ?_
 refine lv_iconst (v := 1) X.x X.b (dk DL_law_4 10 rfl) (by decide) ?_
 refine lv_iadd X.x X.b (dk DL_law_4 11 rfl) ?_
 refine lw_sld X hH hX hbl hbA g1.1 g1.2 (dk DL_law_4 12 rfl) ?_
 refine lv_aload_n X.x X.b (dk DL_law_4 13 rfl) rfl (lv_at hl 3 rfl) ?_
 obtain ⟨Pm, hC, hP⟩ := hAg mm A1 hJ
 refine mr_xi hH (mr_hrunS (As := [.ref a, .int A1, .ref ao]) (rest := []) X hH hC kM_L_146 kT_L_near kN_L kW_L_near hd_L_near ⟨Nat.le_of_ble_eq_true rfl, Nat.le_of_ble_eq_true rfl⟩ rfl hl.1 (Nat.le_of_ble_eq_true rfl) (dk DL_law_4 14 rfl) ⟨room_le1 (a := rm_L_near.cells) (x := 1) (K := 601024) rfl (by omega), room_le1 (a := rm_L_near.slots) (x := 6) (K := 7293034) rfl (by omega)⟩) (fun E h1 q9 H locs hp hH hth => hp.elim) (fun r h1 H locs hp hH => ?_)
 obtain ⟨q, st, x, bv, fo, hqb, hq, hm, hF, hx2, hfo, hv, hJ2⟩ := hP r h1 hp
 refine W.widen (k := cells + 161) (n := slots + 7887) (room_le1 (a := rm_L_near.cells) (x := 1) rfl (by omega)) (room_le1 (a := rm_L_near.slots) (x := 6) rfl (by omega)) ?_
 subst hqb
 have hR := c_X12_near (l := l) (G := G) (h := h1) hq hF
 rw [hm] at hR
 have hroot := (oset_at (G := G) (st := st) (h := h1) hq (Nat.le_refl _) ohas_N).trans (congrArg some ocell_N)
 rw [hm] at hroot
 have hroot2 := (oset_at (G := G) (st := x) (h := h1) hq (Nat.le_refl _) ohas_N).trans (congrArg some ocell_N)
 refine lv_istore (lv' := [(5, .int r), (0, .ref bS), (1, .ref a), (2, .ref (q 53)), (3, .ref ao), (4, .int x4)]) X.x X.b (dk DL_law_4 15 rfl) hl (by decide) rfl (fun ls hl => ?_)
 replace hl : lv_has ls 8 [(0, .ref bS), (1, .ref a), (2, .ref (q 53)), (3, .ref ao), (4, .int x4), (5, .int r)] := lv_sub hl [1, 2, 3, 4, 5, 0] rfl
 refine lv_aload_n X.x X.b (dk DL_law_4 16 rfl) rfl (lv_at hl 2 rfl) ?_
 refine lv_aload_n X.x X.b (dk DL_law_4 17 rfl) rfl (lv_at hl 0 rfl) ?_
 refine lv_iload X.x X.b (dk DL_law_4 18 rfl) (lv_at hl 4 rfl) ?_
 refine lv_iconst (v := 1) X.x X.b (dk DL_law_4 19 rfl) (by decide) ?_
 refine lv_iadd X.x X.b (dk DL_law_4 20 rfl) ?_
 refine lw_sld X hH hX hbl hbA g1.1 g1.2 (dk DL_law_4 21 rfl) ?_
 refine mr_cl0 hH ⟨rfl, rfl⟩ (mr_runV (As := [.int A1]) (rest := []) X hH hR hroot OX12.1 kM_L_148 kI_X12_near kS_X12_near kN_X12 kC_X12_near hd_X12_near ⟨Nat.le_of_ble_eq_true rfl, Nat.le_of_ble_eq_true rfl⟩ rfl hl.1 (Nat.le_of_ble_eq_true rfl) (dk DL_law_4 22 rfl) ⟨room_le3 (c := cells + 161) (b := rm_X12_near.cells) (K := 601024) rfl hc, room_le3 (c := slots + 7887) (b := rm_X12_near.slots) (K := 7293034) rfl hs⟩) (fun r2 h2 H locs hp2 hH => ?_)
 replace hp2 : r2 = bv ∧ h2 = oset LX12 G q x h1 := hp2
 obtain ⟨e1, e2⟩ := hp2
 subst e2
 refine lv_lstore (lv' := [(6, .long r2), (0, .ref bS), (1, .ref a), (2, .ref (q 53)), (3, .ref ao), (4, .int x4), (5, .int r)]) X.x X.b (dk DL_law_4 23 rfl) hl (by decide) rfl (fun ls hl => ?_)
 replace hl : lv_has ls 8 [(0, .ref bS), (1, .ref a), (2, .ref (q 53)), (3, .ref ao), (4, .int x4), (5, .int r), (6, .long r2)] := lv_sub hl [1, 2, 3, 4, 5, 6, 0] rfl
 refine lv_aload_n X.x X.b (dk DL_law_4 24 rfl) rfl (lv_at hl 2 rfl) ?_
 refine mr_ci0 hH ⟨rfl, rfl⟩ (mr_runV (As := []) (rest := []) X hH (c_X12_thrown (l := l) (G := G) (h := h1) hq (st := x) (x := x.1 2) rfl) hroot2 OX12.1 kM_L_128 kI_X12_thrown kS_X12_thrown kN_X12 kC_X12_thrown hd_X12_thrown ⟨Nat.le_of_ble_eq_true rfl, Nat.le_of_ble_eq_true rfl⟩ rfl hl.1 (Nat.le_of_ble_eq_true rfl) (dk DL_law_4 25 rfl) ⟨room_le3 (c := cells + 161) (b := rm_X12_thrown.cells) (K := 601024) rfl hc, room_le3 (c := slots + 7887) (b := rm_X12_thrown.slots) (K := 7293034) rfl hs⟩) (fun r3 h3 H locs hp3 hH => ?_)
 obtain ⟨e3, e4⟩ := hp3
 subst e4
 refine lv_iload X.x X.b (dk DL_law_4 26 rfl) (lv_at hl 5 rfl) ?_
 refine lv_icmp_eq (tgt := 612) X.x X.b (dk DL_law_4 27 rfl) (by decide) (fun _ => ?_) (fun z => absurd (e3.trans hx2) z)
 refine lv_iload X.x X.b (dk DL_law_4 30 rfl) (lv_at hl 5 rfl) ?_
 refine lv_if_ne (tgt := 628) X.x X.b (dk DL_law_4 31 rfl) (by decide) (fun c0 => ?_) (fun c0 => ?_)
 · refine lv_goto (tgt := 2497) X.x X.b (dk DL_law_4 40 rfl) (by decide) ?_
   exact kk _ _ _ _ hJ2 hH (lv_sub hl [0, 1, 2, 3, 4] rfl)
 · refine lv_aload_n X.x X.b (dk DL_law_4 32 rfl) rfl (lv_at hl 3 rfl) ?_
   refine lv_iconst (v := 0) X.x X.b (dk DL_law_4 33 rfl) (by decide) ?_
   have hr0 : r = 0 := by first | exact c0 | exact Decidable.not_not.mp c0
   refine mr_lald X hH hfo (show vp_in (nI 0) 1 from vp_in_nI (by decide) (by decide)) (dk DL_law_4 34 rfl) ?_
   rw [show ((0 : Int32).toNatClampNeg) = 0 from rfl]
   refine lv_lload X.x X.b (dk DL_law_4 35 rfl) (lv_at hl 6 rfl) ?_
   refine W.lcmp X.x X.b (dk DL_law_4 36 rfl) ?_
   refine lv_if_eq (tgt := 628) X.x X.b (dk DL_law_4 37 rfl) (by decide) (fun _ => ?_) (fun z => absurd ((lg_cmp_eq _ _).mpr ((hv hr0).trans (by rw [e1]))) z)
   refine lv_goto (tgt := 2497) X.x X.b (dk DL_law_4 40 rfl) (by decide) ?_
   exact kk _ _ _ _ hJ2 hH (lv_sub hl [0, 1, 2, 3, 4] rfl)
set_option maxHeartbeats 4000000 in
set_option maxRecDepth 100000 in
theorem lc_across {p : Program} {l : Launch} {e : Env} {s : State} {m : MethodId} {args : Array Value} {below : List Frame} {meth : Method} {c : Code} {G : mG} {L : Nat} {xs : Nat → Int32} {bS a b ao : Nat} (X : mX G p m c code 8 s args RL) (hX : va_X bS L xs s s.heap) (hbl : bS < s.heap.size) (hbA : ¬ mA G bS) {J : mM → Prop} (hJa : ∀ m, J m → ∃ fs, m a = some (.inr (LX11.1, fs))) (hAg : Ag_across l G J a b ao) {x4 A1 A2 A3 A4 A5 : Int32} (g1 : vp_in (x4 + 1) L ∧ xs (x4 + 1).toNatClampNeg = A1) (g2 : vp_in (x4 + 2) L ∧ xs (x4 + 2).toNatClampNeg = A2) (g3 : vp_in (x4 + 3) L ∧ xs (x4 + 3).toNatClampNeg = A3) (g4 : vp_in (x4 + 4) L ∧ xs (x4 + 4).toNatClampNeg = A4) (g5 : vp_in (x4 + 5) L ∧ xs (x4 + 5).toNatClampNeg = A5) {mm : mM} {H : Heap} {locs : List Loc} {ls : Array Slot} (hJ : J mm) (hH : mH G mm s.heap H locs) (hl : lv_has ls 8 [(0, .ref bS), (1, .ref a), (2, .ref b), (3, .ref ao), (4, .int x4)]) {cells slots : Nat} (hc : cells + 161 ≤ 601024) (hs : slots + 7887 ≤ 7293034) {Q : State → Prop}
    (kk : ∀ (mm : mM) (H : Heap) (locs : List Loc) (ls : Array Slot), J mm → mH G mm s.heap H locs → lv_has ls 8 [(0, .ref bS), (1, .ref a), (2, .ref b), (3, .ref ao), (4, .int x4)] → W p l e room_1 s m args below meth c H locs (cells + 161) (slots + 7887) Q (F0 m 2497 ls [])) :
    W p l e room_1 s m args below meth c H locs cells slots Q (F0 m 631 ls []) := by
 refine lv_aload_n X.x X.b (dk DL_law_4 41 rfl) rfl (lv_at hl 1 rfl) ?_
 refine lv_aload_n X.x X.b (dk DL_law_4 42 rfl) rfl (lv_at hl 0 rfl) ?_
 refine lv_iload X.x X.b (dk DL_law_4 43 rfl) (lv_at hl 4 rfl) ?_
 refine lv_iconst (v := 1) X.x X.b (dk DL_law_4 44 rfl) (by decide) ?_
 refine lv_iadd X.x X.b (dk DL_law_4 45 rfl) ?_
 refine lw_sld X hH hX hbl hbA g1.1 g1.2 (dk DL_law_4 46 rfl) ?_
 refine lv_i2l X.x X.b (dk DL_law_4 47 rfl) rfl ?_
 refine lv_bipush (v := 32) X.x X.b (dk DL_law_4 48 rfl) (by decide) ?_
 refine lv_lshl X.x X.b (dk DL_law_4 49 rfl) rfl ?_
 refine lv_aload_n X.x X.b (dk DL_law_4 50 rfl) rfl (lv_at hl 0 rfl) ?_
 refine lv_iload X.x X.b (dk DL_law_4 51 rfl) (lv_at hl 4 rfl) ?_
 refine lv_iconst (v := 2) X.x X.b (dk DL_law_4 52 rfl) (by decide) ?_
 refine lv_iadd X.x X.b (dk DL_law_4 53 rfl) ?_
 refine lw_sld X hH hX hbl hbA g2.1 g2.2 (dk DL_law_4 54 rfl) ?_
 refine lv_i2l X.x X.b (dk DL_law_4 55 rfl) rfl ?_
 refine lv_ldc2 (v := 4294967295) X.x X.b X.ow (X.ts _ kK_L_149) (dk DL_law_4 56 rfl) ?_
 refine lv_land X.x X.b (dk DL_law_4 57 rfl) ?_
 refine lv_lor X.x X.b (dk DL_law_4 58 rfl) ?_
 refine lv_aload_n X.x X.b (dk DL_law_4 59 rfl) rfl (lv_at hl 3 rfl) ?_
 obtain ⟨Pm, hC, hP⟩ := hAg mm (((((A1 : Int32).toInt64 : Int64)) <<< ((32 : Int32).toInt64 &&& 63)) ||| (((A2 : Int32).toInt64) &&& 4294967295)) hJ
 refine mr_xi hH (mr_hrunS (As := [.ref a, .long (((((A1 : Int32).toInt64 : Int64)) <<< ((32 : Int32).toInt64 &&& 63)) ||| (((A2 : Int32).toInt64) &&& 4294967295)), .ref ao]) (rest := []) X hH hC kM_L_151 kT_L_across kN_L kW_L_across hd_L_across ⟨Nat.le_of_ble_eq_true rfl, Nat.le_of_ble_eq_true rfl⟩ rfl hl.1 (Nat.le_of_ble_eq_true rfl) (dk DL_law_5 0 rfl) ⟨room_le1 (a := rm_L_across.cells) (x := 1) (K := 601024) rfl (by omega), room_le1 (a := rm_L_across.slots) (x := 6) (K := 7293034) rfl (by omega)⟩) (fun E h1 q9 H locs hp hH hth => hp.elim) (fun r h1 H locs hp hH => ?_)
 obtain ⟨q, st, x, bv, fo, hqb, hq, hm, hF, hx2, hfo, hv, hJ2⟩ := hP r h1 hp
 refine W.widen (k := cells + 161) (n := slots + 7887) (room_le1 (a := rm_L_across.cells) (x := 1) rfl (by omega)) (room_le1 (a := rm_L_across.slots) (x := 6) rfl (by omega)) ?_
 subst hqb
 have hR := c_X12_across (l := l) (G := G) (h := h1) hq hF
 rw [hm] at hR
 have hroot := (oset_at (G := G) (st := st) (h := h1) hq (Nat.le_refl _) ohas_N).trans (congrArg some ocell_N)
 rw [hm] at hroot
 have hroot2 := (oset_at (G := G) (st := x) (h := h1) hq (Nat.le_refl _) ohas_N).trans (congrArg some ocell_N)
 refine lv_istore (lv' := [(5, .int r), (0, .ref bS), (1, .ref a), (2, .ref (q 53)), (3, .ref ao), (4, .int x4)]) X.x X.b (dk DL_law_5 1 rfl) hl (by decide) rfl (fun ls hl => ?_)
 replace hl : lv_has ls 8 [(0, .ref bS), (1, .ref a), (2, .ref (q 53)), (3, .ref ao), (4, .int x4), (5, .int r)] := lv_sub hl [1, 2, 3, 4, 5, 0] rfl
 refine lv_aload_n X.x X.b (dk DL_law_5 2 rfl) rfl (lv_at hl 2 rfl) ?_
 refine lv_aload_n X.x X.b (dk DL_law_5 3 rfl) rfl (lv_at hl 0 rfl) ?_
 refine lv_iload X.x X.b (dk DL_law_5 4 rfl) (lv_at hl 4 rfl) ?_
 refine lv_iconst (v := 1) X.x X.b (dk DL_law_5 5 rfl) (by decide) ?_
 refine lv_iadd X.x X.b (dk DL_law_5 6 rfl) ?_
 refine lw_sld X hH hX hbl hbA g1.1 g1.2 (dk DL_law_5 7 rfl) ?_
 refine lv_i2l X.x X.b (dk DL_law_5 8 rfl) rfl ?_
 refine lv_bipush (v := 32) X.x X.b (dk DL_law_5 9 rfl) (by decide) ?_
 refine lv_lshl X.x X.b (dk DL_law_5 10 rfl) rfl ?_
 refine lv_aload_n X.x X.b (dk DL_law_5 11 rfl) rfl (lv_at hl 0 rfl) ?_
 refine lv_iload X.x X.b (dk DL_law_5 12 rfl) (lv_at hl 4 rfl) ?_
 refine lv_iconst (v := 2) X.x X.b (dk DL_law_5 13 rfl) (by decide) ?_
 refine lv_iadd X.x X.b (dk DL_law_5 14 rfl) ?_
 refine lw_sld X hH hX hbl hbA g2.1 g2.2 (dk DL_law_5 15 rfl) ?_
 refine lv_i2l X.x X.b (dk DL_law_5 16 rfl) rfl ?_
 refine lv_ldc2 (v := 4294967295) X.x X.b X.ow (X.ts _ kK_L_149) (dk DL_law_5 17 rfl) ?_
 refine lv_land X.x X.b (dk DL_law_5 18 rfl) ?_
 refine lv_lor X.x X.b (dk DL_law_5 19 rfl) ?_
 refine mr_cl0 hH ⟨rfl, rfl⟩ (mr_runV (As := [.long (((((A1 : Int32).toInt64 : Int64)) <<< ((32 : Int32).toInt64 &&& 63)) ||| (((A2 : Int32).toInt64) &&& 4294967295))]) (rest := []) X hH hR hroot OX12.1 kM_L_154 kI_X12_across kS_X12_across kN_X12 kC_X12_across hd_X12_across ⟨Nat.le_of_ble_eq_true rfl, Nat.le_of_ble_eq_true rfl⟩ rfl hl.1 (Nat.le_of_ble_eq_true rfl) (dk DL_law_5 20 rfl) ⟨room_le3 (c := cells + 161) (b := rm_X12_across.cells) (K := 601024) rfl hc, room_le3 (c := slots + 7887) (b := rm_X12_across.slots) (K := 7293034) rfl hs⟩) (fun r2 h2 H locs hp2 hH => ?_)
 replace hp2 : r2 = bv ∧ h2 = oset LX12 G q x h1 := hp2
 obtain ⟨e1, e2⟩ := hp2
 subst e2
 refine lv_lstore (lv' := [(6, .long r2), (0, .ref bS), (1, .ref a), (2, .ref (q 53)), (3, .ref ao), (4, .int x4), (5, .int r)]) X.x X.b (dk DL_law_5 21 rfl) hl (by decide) rfl (fun ls hl => ?_)
 replace hl : lv_has ls 8 [(0, .ref bS), (1, .ref a), (2, .ref (q 53)), (3, .ref ao), (4, .int x4), (5, .int r), (6, .long r2)] := lv_sub hl [1, 2, 3, 4, 5, 6, 0] rfl
 refine lv_aload_n X.x X.b (dk DL_law_5 22 rfl) rfl (lv_at hl 2 rfl) ?_
 refine mr_ci0 hH ⟨rfl, rfl⟩ (mr_runV (As := []) (rest := []) X hH (c_X12_thrown (l := l) (G := G) (h := h1) hq (st := x) (x := x.1 2) rfl) hroot2 OX12.1 kM_L_128 kI_X12_thrown kS_X12_thrown kN_X12 kC_X12_thrown hd_X12_thrown ⟨Nat.le_of_ble_eq_true rfl, Nat.le_of_ble_eq_true rfl⟩ rfl hl.1 (Nat.le_of_ble_eq_true rfl) (dk DL_law_5 23 rfl) ⟨room_le3 (c := cells + 161) (b := rm_X12_thrown.cells) (K := 601024) rfl hc, room_le3 (c := slots + 7887) (b := rm_X12_thrown.slots) (K := 7293034) rfl hs⟩) (fun r3 h3 H locs hp3 hH => ?_)
 obtain ⟨e3, e4⟩ := hp3
 subst e4
 refine lv_iload X.x X.b (dk DL_law_5 24 rfl) (lv_at hl 5 rfl) ?_
 refine lv_icmp_eq (tgt := 699) X.x X.b (dk DL_law_5 25 rfl) (by decide) (fun _ => ?_) (fun z => absurd (e3.trans hx2) z)
 refine lv_iload X.x X.b (dk DL_law_5 28 rfl) (lv_at hl 5 rfl) ?_
 refine lv_if_ne (tgt := 715) X.x X.b (dk DL_law_5 29 rfl) (by decide) (fun c0 => ?_) (fun c0 => ?_)
 · refine lv_goto (tgt := 2497) X.x X.b (dk DL_law_5 38 rfl) (by decide) ?_
   exact kk _ _ _ _ hJ2 hH (lv_sub hl [0, 1, 2, 3, 4] rfl)
 · refine lv_aload_n X.x X.b (dk DL_law_5 30 rfl) rfl (lv_at hl 3 rfl) ?_
   refine lv_iconst (v := 0) X.x X.b (dk DL_law_5 31 rfl) (by decide) ?_
   have hr0 : r = 0 := by first | exact c0 | exact Decidable.not_not.mp c0
   refine mr_lald X hH hfo (show vp_in (nI 0) 1 from vp_in_nI (by decide) (by decide)) (dk DL_law_5 32 rfl) ?_
   rw [show ((0 : Int32).toNatClampNeg) = 0 from rfl]
   refine lv_lload X.x X.b (dk DL_law_5 33 rfl) (lv_at hl 6 rfl) ?_
   refine W.lcmp X.x X.b (dk DL_law_5 34 rfl) ?_
   refine lv_if_eq (tgt := 715) X.x X.b (dk DL_law_5 35 rfl) (by decide) (fun _ => ?_) (fun z => absurd ((lg_cmp_eq _ _).mpr ((hv hr0).trans (by rw [e1]))) z)
   refine lv_goto (tgt := 2497) X.x X.b (dk DL_law_5 38 rfl) (by decide) ?_
   exact kk _ _ _ _ hJ2 hH (lv_sub hl [0, 1, 2, 3, 4] rfl)
set_option maxHeartbeats 4000000 in
set_option maxRecDepth 100000 in
theorem lc_spanned {p : Program} {l : Launch} {e : Env} {s : State} {m : MethodId} {args : Array Value} {below : List Frame} {meth : Method} {c : Code} {G : mG} {L : Nat} {xs : Nat → Int32} {bS a b ao : Nat} (X : mX G p m c code 8 s args RL) (hX : va_X bS L xs s s.heap) (hbl : bS < s.heap.size) (hbA : ¬ mA G bS) {J : mM → Prop} (hJa : ∀ m, J m → ∃ fs, m a = some (.inr (LX11.1, fs))) (hAg : Ag_spanned l G J a b ao) {x4 A1 A2 A3 A4 A5 : Int32} (g1 : vp_in (x4 + 1) L ∧ xs (x4 + 1).toNatClampNeg = A1) (g2 : vp_in (x4 + 2) L ∧ xs (x4 + 2).toNatClampNeg = A2) (g3 : vp_in (x4 + 3) L ∧ xs (x4 + 3).toNatClampNeg = A3) (g4 : vp_in (x4 + 4) L ∧ xs (x4 + 4).toNatClampNeg = A4) (g5 : vp_in (x4 + 5) L ∧ xs (x4 + 5).toNatClampNeg = A5) {mm : mM} {H : Heap} {locs : List Loc} {ls : Array Slot} (hJ : J mm) (hH : mH G mm s.heap H locs) (hl : lv_has ls 8 [(0, .ref bS), (1, .ref a), (2, .ref b), (3, .ref ao), (4, .int x4)]) {cells slots : Nat} (hc : cells + 161 ≤ 601024) (hs : slots + 7887 ≤ 7293034) {Q : State → Prop}
    (kk : ∀ (mm : mM) (H : Heap) (locs : List Loc) (ls : Array Slot), J mm → mH G mm s.heap H locs → lv_has ls 8 [(0, .ref bS), (1, .ref a), (2, .ref b), (3, .ref ao), (4, .int x4)] → W p l e room_1 s m args below meth c H locs (cells + 161) (slots + 7887) Q (F0 m 2497 ls [])) :
    W p l e room_1 s m args below meth c H locs cells slots Q (F0 m 718 ls []) := by
 refine lv_aload_n X.x X.b (dk DL_law_5 39 rfl) rfl (lv_at hl 1 rfl) ?_
 refine lv_aload_n X.x X.b (dk DL_law_5 40 rfl) rfl (lv_at hl 0 rfl) ?_
 refine lv_iload X.x X.b (dk DL_law_5 41 rfl) (lv_at hl 4 rfl) ?_
 refine lv_iconst (v := 1) X.x X.b (dk DL_law_5 42 rfl) (by decide) ?_
 refine lv_iadd X.x X.b (dk DL_law_5 43 rfl) ?_
 refine lw_sld X hH hX hbl hbA g1.1 g1.2 (dk DL_law_5 44 rfl) ?_
 refine lv_i2l X.x X.b (dk DL_law_5 45 rfl) rfl ?_
 refine lv_bipush (v := 32) X.x X.b (dk DL_law_5 46 rfl) (by decide) ?_
 refine lv_lshl X.x X.b (dk DL_law_5 47 rfl) rfl ?_
 refine lv_aload_n X.x X.b (dk DL_law_5 48 rfl) rfl (lv_at hl 0 rfl) ?_
 refine lv_iload X.x X.b (dk DL_law_5 49 rfl) (lv_at hl 4 rfl) ?_
 refine lv_iconst (v := 2) X.x X.b (dk DL_law_5 50 rfl) (by decide) ?_
 refine lv_iadd X.x X.b (dk DL_law_5 51 rfl) ?_
 refine lw_sld X hH hX hbl hbA g2.1 g2.2 (dk DL_law_5 52 rfl) ?_
 refine lv_i2l X.x X.b (dk DL_law_5 53 rfl) rfl ?_
 refine lv_ldc2 (v := 4294967295) X.x X.b X.ow (X.ts _ kK_L_149) (dk DL_law_5 54 rfl) ?_
 refine lv_land X.x X.b (dk DL_law_5 55 rfl) ?_
 refine lv_lor X.x X.b (dk DL_law_5 56 rfl) ?_
 refine lv_aload_n X.x X.b (dk DL_law_5 57 rfl) rfl (lv_at hl 3 rfl) ?_
 obtain ⟨Pm, hC, hP⟩ := hAg mm (((((A1 : Int32).toInt64 : Int64)) <<< ((32 : Int32).toInt64 &&& 63)) ||| (((A2 : Int32).toInt64) &&& 4294967295)) hJ
 refine mr_xi hH (mr_hrunS (As := [.ref a, .long (((((A1 : Int32).toInt64 : Int64)) <<< ((32 : Int32).toInt64 &&& 63)) ||| (((A2 : Int32).toInt64) &&& 4294967295)), .ref ao]) (rest := []) X hH hC kM_L_155 kT_L_spanned kN_L kW_L_spanned hd_L_spanned ⟨Nat.le_of_ble_eq_true rfl, Nat.le_of_ble_eq_true rfl⟩ rfl hl.1 (Nat.le_of_ble_eq_true rfl) (dk DL_law_5 58 rfl) ⟨room_le1 (a := rm_L_spanned.cells) (x := 1) (K := 601024) rfl (by omega), room_le1 (a := rm_L_spanned.slots) (x := 6) (K := 7293034) rfl (by omega)⟩) (fun E h1 q9 H locs hp hH hth => hp.elim) (fun r h1 H locs hp hH => ?_)
 obtain ⟨q, st, x, bv, fo, hqb, hq, hm, hF, hx2, hfo, hv, hJ2⟩ := hP r h1 hp
 refine W.widen (k := cells + 161) (n := slots + 7887) (room_le1 (a := rm_L_spanned.cells) (x := 1) rfl (by omega)) (room_le1 (a := rm_L_spanned.slots) (x := 6) rfl (by omega)) ?_
 subst hqb
 have hR := c_X12_spanned (l := l) (G := G) (h := h1) hq hF
 rw [hm] at hR
 have hroot := (oset_at (G := G) (st := st) (h := h1) hq (Nat.le_refl _) ohas_N).trans (congrArg some ocell_N)
 rw [hm] at hroot
 have hroot2 := (oset_at (G := G) (st := x) (h := h1) hq (Nat.le_refl _) ohas_N).trans (congrArg some ocell_N)
 refine lv_istore (lv' := [(5, .int r), (0, .ref bS), (1, .ref a), (2, .ref (q 53)), (3, .ref ao), (4, .int x4)]) X.x X.b (dk DL_law_5 59 rfl) hl (by decide) rfl (fun ls hl => ?_)
 replace hl : lv_has ls 8 [(0, .ref bS), (1, .ref a), (2, .ref (q 53)), (3, .ref ao), (4, .int x4), (5, .int r)] := lv_sub hl [1, 2, 3, 4, 5, 0] rfl
 refine lv_aload_n X.x X.b (dk DL_law_6 0 rfl) rfl (lv_at hl 2 rfl) ?_
 refine lv_aload_n X.x X.b (dk DL_law_6 1 rfl) rfl (lv_at hl 0 rfl) ?_
 refine lv_iload X.x X.b (dk DL_law_6 2 rfl) (lv_at hl 4 rfl) ?_
 refine lv_iconst (v := 1) X.x X.b (dk DL_law_6 3 rfl) (by decide) ?_
 refine lv_iadd X.x X.b (dk DL_law_6 4 rfl) ?_
 refine lw_sld X hH hX hbl hbA g1.1 g1.2 (dk DL_law_6 5 rfl) ?_
 refine lv_i2l X.x X.b (dk DL_law_6 6 rfl) rfl ?_
 refine lv_bipush (v := 32) X.x X.b (dk DL_law_6 7 rfl) (by decide) ?_
 refine lv_lshl X.x X.b (dk DL_law_6 8 rfl) rfl ?_
 refine lv_aload_n X.x X.b (dk DL_law_6 9 rfl) rfl (lv_at hl 0 rfl) ?_
 refine lv_iload X.x X.b (dk DL_law_6 10 rfl) (lv_at hl 4 rfl) ?_
 refine lv_iconst (v := 2) X.x X.b (dk DL_law_6 11 rfl) (by decide) ?_
 refine lv_iadd X.x X.b (dk DL_law_6 12 rfl) ?_
 refine lw_sld X hH hX hbl hbA g2.1 g2.2 (dk DL_law_6 13 rfl) ?_
 refine lv_i2l X.x X.b (dk DL_law_6 14 rfl) rfl ?_
 refine lv_ldc2 (v := 4294967295) X.x X.b X.ow (X.ts _ kK_L_149) (dk DL_law_6 15 rfl) ?_
 refine lv_land X.x X.b (dk DL_law_6 16 rfl) ?_
 refine lv_lor X.x X.b (dk DL_law_6 17 rfl) ?_
 refine mr_cl0 hH ⟨rfl, rfl⟩ (mr_runV (As := [.long (((((A1 : Int32).toInt64 : Int64)) <<< ((32 : Int32).toInt64 &&& 63)) ||| (((A2 : Int32).toInt64) &&& 4294967295))]) (rest := []) X hH hR hroot OX12.1 kM_L_157 kI_X12_spanned kS_X12_spanned kN_X12 kC_X12_spanned hd_X12_spanned ⟨Nat.le_of_ble_eq_true rfl, Nat.le_of_ble_eq_true rfl⟩ rfl hl.1 (Nat.le_of_ble_eq_true rfl) (dk DL_law_6 18 rfl) ⟨room_le3 (c := cells + 161) (b := rm_X12_spanned.cells) (K := 601024) rfl hc, room_le3 (c := slots + 7887) (b := rm_X12_spanned.slots) (K := 7293034) rfl hs⟩) (fun r2 h2 H locs hp2 hH => ?_)
 replace hp2 : r2 = bv ∧ h2 = oset LX12 G q x h1 := hp2
 obtain ⟨e1, e2⟩ := hp2
 subst e2
 refine lv_lstore (lv' := [(6, .long r2), (0, .ref bS), (1, .ref a), (2, .ref (q 53)), (3, .ref ao), (4, .int x4), (5, .int r)]) X.x X.b (dk DL_law_6 19 rfl) hl (by decide) rfl (fun ls hl => ?_)
 replace hl : lv_has ls 8 [(0, .ref bS), (1, .ref a), (2, .ref (q 53)), (3, .ref ao), (4, .int x4), (5, .int r), (6, .long r2)] := lv_sub hl [1, 2, 3, 4, 5, 6, 0] rfl
 refine lv_aload_n X.x X.b (dk DL_law_6 20 rfl) rfl (lv_at hl 2 rfl) ?_
 refine mr_ci0 hH ⟨rfl, rfl⟩ (mr_runV (As := []) (rest := []) X hH (c_X12_thrown (l := l) (G := G) (h := h1) hq (st := x) (x := x.1 2) rfl) hroot2 OX12.1 kM_L_128 kI_X12_thrown kS_X12_thrown kN_X12 kC_X12_thrown hd_X12_thrown ⟨Nat.le_of_ble_eq_true rfl, Nat.le_of_ble_eq_true rfl⟩ rfl hl.1 (Nat.le_of_ble_eq_true rfl) (dk DL_law_6 21 rfl) ⟨room_le3 (c := cells + 161) (b := rm_X12_thrown.cells) (K := 601024) rfl hc, room_le3 (c := slots + 7887) (b := rm_X12_thrown.slots) (K := 7293034) rfl hs⟩) (fun r3 h3 H locs hp3 hH => ?_)
 obtain ⟨e3, e4⟩ := hp3
 subst e4
 refine lv_iload X.x X.b (dk DL_law_6 22 rfl) (lv_at hl 5 rfl) ?_
 refine lv_icmp_eq (tgt := 786) X.x X.b (dk DL_law_6 23 rfl) (by decide) (fun _ => ?_) (fun z => absurd (e3.trans hx2) z)
 refine lv_iload X.x X.b (dk DL_law_6 26 rfl) (lv_at hl 5 rfl) ?_
 refine lv_if_ne (tgt := 802) X.x X.b (dk DL_law_6 27 rfl) (by decide) (fun c0 => ?_) (fun c0 => ?_)
 · refine lv_goto (tgt := 2497) X.x X.b (dk DL_law_6 36 rfl) (by decide) ?_
   exact kk _ _ _ _ hJ2 hH (lv_sub hl [0, 1, 2, 3, 4] rfl)
 · refine lv_aload_n X.x X.b (dk DL_law_6 28 rfl) rfl (lv_at hl 3 rfl) ?_
   refine lv_iconst (v := 0) X.x X.b (dk DL_law_6 29 rfl) (by decide) ?_
   have hr0 : r = 0 := by first | exact c0 | exact Decidable.not_not.mp c0
   refine mr_lald X hH hfo (show vp_in (nI 0) 1 from vp_in_nI (by decide) (by decide)) (dk DL_law_6 30 rfl) ?_
   rw [show ((0 : Int32).toNatClampNeg) = 0 from rfl]
   refine lv_lload X.x X.b (dk DL_law_6 31 rfl) (lv_at hl 6 rfl) ?_
   refine W.lcmp X.x X.b (dk DL_law_6 32 rfl) ?_
   refine lv_if_eq (tgt := 802) X.x X.b (dk DL_law_6 33 rfl) (by decide) (fun _ => ?_) (fun z => absurd ((lg_cmp_eq _ _).mpr ((hv hr0).trans (by rw [e1]))) z)
   refine lv_goto (tgt := 2497) X.x X.b (dk DL_law_6 36 rfl) (by decide) ?_
   exact kk _ _ _ _ hJ2 hH (lv_sub hl [0, 1, 2, 3, 4] rfl)
set_option maxHeartbeats 4000000 in
set_option maxRecDepth 100000 in
theorem lc_hyper {p : Program} {l : Launch} {e : Env} {s : State} {m : MethodId} {args : Array Value} {below : List Frame} {meth : Method} {c : Code} {G : mG} {L : Nat} {xs : Nat → Int32} {bS a b ao : Nat} (X : mX G p m c code 8 s args RL) (hX : va_X bS L xs s s.heap) (hbl : bS < s.heap.size) (hbA : ¬ mA G bS) {J : mM → Prop} (hJa : ∀ m, J m → ∃ fs, m a = some (.inr (LX11.1, fs))) (hAg : Ag_hyper l G J a b ao) {x4 A1 A2 A3 A4 A5 : Int32} (g1 : vp_in (x4 + 1) L ∧ xs (x4 + 1).toNatClampNeg = A1) (g2 : vp_in (x4 + 2) L ∧ xs (x4 + 2).toNatClampNeg = A2) (g3 : vp_in (x4 + 3) L ∧ xs (x4 + 3).toNatClampNeg = A3) (g4 : vp_in (x4 + 4) L ∧ xs (x4 + 4).toNatClampNeg = A4) (g5 : vp_in (x4 + 5) L ∧ xs (x4 + 5).toNatClampNeg = A5) {mm : mM} {H : Heap} {locs : List Loc} {ls : Array Slot} (hJ : J mm) (hH : mH G mm s.heap H locs) (hl : lv_has ls 8 [(0, .ref bS), (1, .ref a), (2, .ref b), (3, .ref ao), (4, .int x4)]) {cells slots : Nat} (hc : cells + 161 ≤ 601024) (hs : slots + 7887 ≤ 7293034) {Q : State → Prop}
    (kk : ∀ (mm : mM) (H : Heap) (locs : List Loc) (ls : Array Slot), J mm → mH G mm s.heap H locs → lv_has ls 8 [(0, .ref bS), (1, .ref a), (2, .ref b), (3, .ref ao), (4, .int x4)] → W p l e room_1 s m args below meth c H locs (cells + 161) (slots + 7887) Q (F0 m 2497 ls [])) :
    W p l e room_1 s m args below meth c H locs cells slots Q (F0 m 805 ls []) := by
 refine lv_aload_n X.x X.b (dk DL_law_6 37 rfl) rfl (lv_at hl 1 rfl) ?_
 refine lv_aload_n X.x X.b (dk DL_law_6 38 rfl) rfl (lv_at hl 0 rfl) ?_
 refine lv_iload X.x X.b (dk DL_law_6 39 rfl) (lv_at hl 4 rfl) ?_
 refine lv_iconst (v := 1) X.x X.b (dk DL_law_6 40 rfl) (by decide) ?_
 refine lv_iadd X.x X.b (dk DL_law_6 41 rfl) ?_
 refine lw_sld X hH hX hbl hbA g1.1 g1.2 (dk DL_law_6 42 rfl) ?_
 refine lv_aload_n X.x X.b (dk DL_law_6 43 rfl) rfl (lv_at hl 0 rfl) ?_
 refine lv_iload X.x X.b (dk DL_law_6 44 rfl) (lv_at hl 4 rfl) ?_
 refine lv_iconst (v := 2) X.x X.b (dk DL_law_6 45 rfl) (by decide) ?_
 refine lv_iadd X.x X.b (dk DL_law_6 46 rfl) ?_
 refine lw_sld X hH hX hbl hbA g2.1 g2.2 (dk DL_law_6 47 rfl) ?_
 refine lv_aload_n X.x X.b (dk DL_law_6 48 rfl) rfl (lv_at hl 3 rfl) ?_
 obtain ⟨Pm, hC, hP⟩ := hAg mm A1 A2 hJ
 refine mr_xi hH (mr_hrunS (As := [.ref a, .int A1, .int A2, .ref ao]) (rest := []) X hH hC kM_L_158 kT_L_hyper kN_L kW_L_hyper hd_L_hyper ⟨Nat.le_of_ble_eq_true rfl, Nat.le_of_ble_eq_true rfl⟩ rfl hl.1 (Nat.le_of_ble_eq_true rfl) (dk DL_law_6 49 rfl) ⟨room_le1 (a := rm_L_hyper.cells) (x := 2) (K := 601024) rfl (by omega), room_le1 (a := rm_L_hyper.slots) (x := 12) (K := 7293034) rfl (by omega)⟩) (fun E h1 q9 H locs hp hH hth => hp.elim) (fun r h1 H locs hp hH => ?_)
 obtain ⟨q, st, x, bv, fo, hqb, hq, hm, hF, hx2, hfo, hv, hJ2⟩ := hP r h1 hp
 refine W.widen (k := cells + 161) (n := slots + 7887) (room_le1 (a := rm_L_hyper.cells) (x := 2) rfl (by omega)) (room_le1 (a := rm_L_hyper.slots) (x := 12) rfl (by omega)) ?_
 subst hqb
 have hR := c_X12_hyper (l := l) (G := G) (h := h1) hq hF
 rw [hm] at hR
 have hroot := (oset_at (G := G) (st := st) (h := h1) hq (Nat.le_refl _) ohas_N).trans (congrArg some ocell_N)
 rw [hm] at hroot
 have hroot2 := (oset_at (G := G) (st := x) (h := h1) hq (Nat.le_refl _) ohas_N).trans (congrArg some ocell_N)
 refine lv_istore (lv' := [(5, .int r), (0, .ref bS), (1, .ref a), (2, .ref (q 53)), (3, .ref ao), (4, .int x4)]) X.x X.b (dk DL_law_6 50 rfl) hl (by decide) rfl (fun ls hl => ?_)
 replace hl : lv_has ls 8 [(0, .ref bS), (1, .ref a), (2, .ref (q 53)), (3, .ref ao), (4, .int x4), (5, .int r)] := lv_sub hl [1, 2, 3, 4, 5, 0] rfl
 refine lv_aload_n X.x X.b (dk DL_law_6 51 rfl) rfl (lv_at hl 2 rfl) ?_
 refine lv_aload_n X.x X.b (dk DL_law_6 52 rfl) rfl (lv_at hl 0 rfl) ?_
 refine lv_iload X.x X.b (dk DL_law_6 53 rfl) (lv_at hl 4 rfl) ?_
 refine lv_iconst (v := 1) X.x X.b (dk DL_law_6 54 rfl) (by decide) ?_
 refine lv_iadd X.x X.b (dk DL_law_6 55 rfl) ?_
 refine lw_sld X hH hX hbl hbA g1.1 g1.2 (dk DL_law_6 56 rfl) ?_
 refine lv_aload_n X.x X.b (dk DL_law_6 57 rfl) rfl (lv_at hl 0 rfl) ?_
 refine lv_iload X.x X.b (dk DL_law_6 58 rfl) (lv_at hl 4 rfl) ?_
 refine lv_iconst (v := 2) X.x X.b (dk DL_law_6 59 rfl) (by decide) ?_
 refine lv_iadd X.x X.b (dk DL_law_7 0 rfl) ?_
 refine lw_sld X hH hX hbl hbA g2.1 g2.2 (dk DL_law_7 1 rfl) ?_
 refine mr_cl0 hH ⟨rfl, rfl⟩ (mr_runV (As := [.int A1, .int A2]) (rest := []) X hH hR hroot OX12.1 kM_L_160 kI_X12_hyper kS_X12_hyper kN_X12 kC_X12_hyper hd_X12_hyper ⟨Nat.le_of_ble_eq_true rfl, Nat.le_of_ble_eq_true rfl⟩ rfl hl.1 (Nat.le_of_ble_eq_true rfl) (dk DL_law_7 2 rfl) ⟨room_le3 (c := cells + 161) (b := rm_X12_hyper.cells) (K := 601024) rfl hc, room_le3 (c := slots + 7887) (b := rm_X12_hyper.slots) (K := 7293034) rfl hs⟩) (fun r2 h2 H locs hp2 hH => ?_)
 replace hp2 : r2 = bv ∧ h2 = oset LX12 G q x h1 := hp2
 obtain ⟨e1, e2⟩ := hp2
 subst e2
 refine lv_lstore (lv' := [(6, .long r2), (0, .ref bS), (1, .ref a), (2, .ref (q 53)), (3, .ref ao), (4, .int x4), (5, .int r)]) X.x X.b (dk DL_law_7 3 rfl) hl (by decide) rfl (fun ls hl => ?_)
 replace hl : lv_has ls 8 [(0, .ref bS), (1, .ref a), (2, .ref (q 53)), (3, .ref ao), (4, .int x4), (5, .int r), (6, .long r2)] := lv_sub hl [1, 2, 3, 4, 5, 6, 0] rfl
 refine lv_aload_n X.x X.b (dk DL_law_7 4 rfl) rfl (lv_at hl 2 rfl) ?_
 refine mr_ci0 hH ⟨rfl, rfl⟩ (mr_runV (As := []) (rest := []) X hH (c_X12_thrown (l := l) (G := G) (h := h1) hq (st := x) (x := x.1 2) rfl) hroot2 OX12.1 kM_L_128 kI_X12_thrown kS_X12_thrown kN_X12 kC_X12_thrown hd_X12_thrown ⟨Nat.le_of_ble_eq_true rfl, Nat.le_of_ble_eq_true rfl⟩ rfl hl.1 (Nat.le_of_ble_eq_true rfl) (dk DL_law_7 5 rfl) ⟨room_le3 (c := cells + 161) (b := rm_X12_thrown.cells) (K := 601024) rfl hc, room_le3 (c := slots + 7887) (b := rm_X12_thrown.slots) (K := 7293034) rfl hs⟩) (fun r3 h3 H locs hp3 hH => ?_)
 obtain ⟨e3, e4⟩ := hp3
 subst e4
 refine lv_iload X.x X.b (dk DL_law_7 6 rfl) (lv_at hl 5 rfl) ?_
 refine lv_icmp_eq (tgt := 853) X.x X.b (dk DL_law_7 7 rfl) (by decide) (fun _ => ?_) (fun z => absurd (e3.trans hx2) z)
 refine lv_iload X.x X.b (dk DL_law_7 10 rfl) (lv_at hl 5 rfl) ?_
 refine lv_if_ne (tgt := 869) X.x X.b (dk DL_law_7 11 rfl) (by decide) (fun c0 => ?_) (fun c0 => ?_)
 · refine lv_goto (tgt := 2497) X.x X.b (dk DL_law_7 20 rfl) (by decide) ?_
   exact kk _ _ _ _ hJ2 hH (lv_sub hl [0, 1, 2, 3, 4] rfl)
 · refine lv_aload_n X.x X.b (dk DL_law_7 12 rfl) rfl (lv_at hl 3 rfl) ?_
   refine lv_iconst (v := 0) X.x X.b (dk DL_law_7 13 rfl) (by decide) ?_
   have hr0 : r = 0 := by first | exact c0 | exact Decidable.not_not.mp c0
   refine mr_lald X hH hfo (show vp_in (nI 0) 1 from vp_in_nI (by decide) (by decide)) (dk DL_law_7 14 rfl) ?_
   rw [show ((0 : Int32).toNatClampNeg) = 0 from rfl]
   refine lv_lload X.x X.b (dk DL_law_7 15 rfl) (lv_at hl 6 rfl) ?_
   refine W.lcmp X.x X.b (dk DL_law_7 16 rfl) ?_
   refine lv_if_eq (tgt := 869) X.x X.b (dk DL_law_7 17 rfl) (by decide) (fun _ => ?_) (fun z => absurd ((lg_cmp_eq _ _).mpr ((hv hr0).trans (by rw [e1]))) z)
   refine lv_goto (tgt := 2497) X.x X.b (dk DL_law_7 20 rfl) (by decide) ?_
   exact kk _ _ _ _ hJ2 hH (lv_sub hl [0, 1, 2, 3, 4] rfl)
set_option maxHeartbeats 4000000 in
set_option maxRecDepth 100000 in
theorem lc_regular {p : Program} {l : Launch} {e : Env} {s : State} {m : MethodId} {args : Array Value} {below : List Frame} {meth : Method} {c : Code} {G : mG} {L : Nat} {xs : Nat → Int32} {bS a b ao : Nat} (X : mX G p m c code 8 s args RL) (hX : va_X bS L xs s s.heap) (hbl : bS < s.heap.size) (hbA : ¬ mA G bS) {J : mM → Prop} (hJa : ∀ m, J m → ∃ fs, m a = some (.inr (LX11.1, fs))) (hAg : Ag_regular l G J a b ao) {x4 A1 A2 A3 A4 A5 : Int32} (g1 : vp_in (x4 + 1) L ∧ xs (x4 + 1).toNatClampNeg = A1) (g2 : vp_in (x4 + 2) L ∧ xs (x4 + 2).toNatClampNeg = A2) (g3 : vp_in (x4 + 3) L ∧ xs (x4 + 3).toNatClampNeg = A3) (g4 : vp_in (x4 + 4) L ∧ xs (x4 + 4).toNatClampNeg = A4) (g5 : vp_in (x4 + 5) L ∧ xs (x4 + 5).toNatClampNeg = A5) {mm : mM} {H : Heap} {locs : List Loc} {ls : Array Slot} (hJ : J mm) (hH : mH G mm s.heap H locs) (hl : lv_has ls 8 [(0, .ref bS), (1, .ref a), (2, .ref b), (3, .ref ao), (4, .int x4)]) {cells slots : Nat} (hc : cells + 161 ≤ 601024) (hs : slots + 7887 ≤ 7293034) {Q : State → Prop}
    (kk : ∀ (mm : mM) (H : Heap) (locs : List Loc) (ls : Array Slot), J mm → mH G mm s.heap H locs → lv_has ls 8 [(0, .ref bS), (1, .ref a), (2, .ref b), (3, .ref ao), (4, .int x4)] → W p l e room_1 s m args below meth c H locs (cells + 161) (slots + 7887) Q (F0 m 2497 ls [])) :
    W p l e room_1 s m args below meth c H locs cells slots Q (F0 m 872 ls []) := by
 refine lv_aload_n X.x X.b (dk DL_law_7 21 rfl) rfl (lv_at hl 1 rfl) ?_
 refine lv_aload_n X.x X.b (dk DL_law_7 22 rfl) rfl (lv_at hl 0 rfl) ?_
 refine lv_iload X.x X.b (dk DL_law_7 23 rfl) (lv_at hl 4 rfl) ?_
 refine lv_iconst (v := 1) X.x X.b (dk DL_law_7 24 rfl) (by decide) ?_
 refine lv_iadd X.x X.b (dk DL_law_7 25 rfl) ?_
 refine lw_sld X hH hX hbl hbA g1.1 g1.2 (dk DL_law_7 26 rfl) ?_
 refine lv_aload_n X.x X.b (dk DL_law_7 27 rfl) rfl (lv_at hl 0 rfl) ?_
 refine lv_iload X.x X.b (dk DL_law_7 28 rfl) (lv_at hl 4 rfl) ?_
 refine lv_iconst (v := 2) X.x X.b (dk DL_law_7 29 rfl) (by decide) ?_
 refine lv_iadd X.x X.b (dk DL_law_7 30 rfl) ?_
 refine lw_sld X hH hX hbl hbA g2.1 g2.2 (dk DL_law_7 31 rfl) ?_
 refine lv_aload_n X.x X.b (dk DL_law_7 32 rfl) rfl (lv_at hl 3 rfl) ?_
 obtain ⟨Pm, hC, hP⟩ := hAg mm A1 A2 hJ
 refine mr_xi hH (mr_hrunS (As := [.ref a, .int A1, .int A2, .ref ao]) (rest := []) X hH hC kM_L_161 kT_L_regular kN_L kW_L_regular hd_L_regular ⟨Nat.le_of_ble_eq_true rfl, Nat.le_of_ble_eq_true rfl⟩ rfl hl.1 (Nat.le_of_ble_eq_true rfl) (dk DL_law_7 33 rfl) ⟨room_le1 (a := rm_L_regular.cells) (x := 2) (K := 601024) rfl (by omega), room_le1 (a := rm_L_regular.slots) (x := 12) (K := 7293034) rfl (by omega)⟩) (fun E h1 q9 H locs hp hH hth => hp.elim) (fun r h1 H locs hp hH => ?_)
 obtain ⟨q, st, x, bv, fo, hqb, hq, hm, hF, hx2, hfo, hv, hJ2⟩ := hP r h1 hp
 refine W.widen (k := cells + 161) (n := slots + 7887) (room_le1 (a := rm_L_regular.cells) (x := 2) rfl (by omega)) (room_le1 (a := rm_L_regular.slots) (x := 12) rfl (by omega)) ?_
 subst hqb
 have hR := c_X12_regular (l := l) (G := G) (h := h1) hq hF
 rw [hm] at hR
 have hroot := (oset_at (G := G) (st := st) (h := h1) hq (Nat.le_refl _) ohas_N).trans (congrArg some ocell_N)
 rw [hm] at hroot
 have hroot2 := (oset_at (G := G) (st := x) (h := h1) hq (Nat.le_refl _) ohas_N).trans (congrArg some ocell_N)
 refine lv_istore (lv' := [(5, .int r), (0, .ref bS), (1, .ref a), (2, .ref (q 53)), (3, .ref ao), (4, .int x4)]) X.x X.b (dk DL_law_7 34 rfl) hl (by decide) rfl (fun ls hl => ?_)
 replace hl : lv_has ls 8 [(0, .ref bS), (1, .ref a), (2, .ref (q 53)), (3, .ref ao), (4, .int x4), (5, .int r)] := lv_sub hl [1, 2, 3, 4, 5, 0] rfl
 refine lv_aload_n X.x X.b (dk DL_law_7 35 rfl) rfl (lv_at hl 2 rfl) ?_
 refine lv_aload_n X.x X.b (dk DL_law_7 36 rfl) rfl (lv_at hl 0 rfl) ?_
 refine lv_iload X.x X.b (dk DL_law_7 37 rfl) (lv_at hl 4 rfl) ?_
 refine lv_iconst (v := 1) X.x X.b (dk DL_law_7 38 rfl) (by decide) ?_
 refine lv_iadd X.x X.b (dk DL_law_7 39 rfl) ?_
 refine lw_sld X hH hX hbl hbA g1.1 g1.2 (dk DL_law_7 40 rfl) ?_
 refine lv_aload_n X.x X.b (dk DL_law_7 41 rfl) rfl (lv_at hl 0 rfl) ?_
 refine lv_iload X.x X.b (dk DL_law_7 42 rfl) (lv_at hl 4 rfl) ?_
 refine lv_iconst (v := 2) X.x X.b (dk DL_law_7 43 rfl) (by decide) ?_
 refine lv_iadd X.x X.b (dk DL_law_7 44 rfl) ?_
 refine lw_sld X hH hX hbl hbA g2.1 g2.2 (dk DL_law_7 45 rfl) ?_
 refine mr_ci0 hH ⟨rfl, rfl⟩ (mr_runV (As := [.int A1, .int A2]) (rest := []) X hH hR hroot OX12.1 kM_L_163 kI_X12_regular kS_X12_regular kN_X12 kC_X12_regular hd_X12_regular ⟨Nat.le_of_ble_eq_true rfl, Nat.le_of_ble_eq_true rfl⟩ rfl hl.1 (Nat.le_of_ble_eq_true rfl) (dk DL_law_7 46 rfl) ⟨room_le3 (c := cells + 161) (b := rm_X12_regular.cells) (K := 601024) rfl hc, room_le3 (c := slots + 7887) (b := rm_X12_regular.slots) (K := 7293034) rfl hs⟩) (fun r2 h2 H locs hp2 hH => ?_)
 replace hp2 : r2 = bv ∧ h2 = oset LX12 G q x h1 := hp2
 obtain ⟨e1, e2⟩ := hp2
 subst e2
 refine lv_istore (lv' := [(6, .int r2), (0, .ref bS), (1, .ref a), (2, .ref (q 53)), (3, .ref ao), (4, .int x4), (5, .int r)]) X.x X.b (dk DL_law_7 47 rfl) hl (by decide) rfl (fun ls hl => ?_)
 replace hl : lv_has ls 8 [(0, .ref bS), (1, .ref a), (2, .ref (q 53)), (3, .ref ao), (4, .int x4), (5, .int r), (6, .int r2)] := lv_sub hl [1, 2, 3, 4, 5, 6, 0] rfl
 refine lv_aload_n X.x X.b (dk DL_law_7 48 rfl) rfl (lv_at hl 2 rfl) ?_
 refine mr_ci0 hH ⟨rfl, rfl⟩ (mr_runV (As := []) (rest := []) X hH (c_X12_thrown (l := l) (G := G) (h := h1) hq (st := x) (x := x.1 2) rfl) hroot2 OX12.1 kM_L_128 kI_X12_thrown kS_X12_thrown kN_X12 kC_X12_thrown hd_X12_thrown ⟨Nat.le_of_ble_eq_true rfl, Nat.le_of_ble_eq_true rfl⟩ rfl hl.1 (Nat.le_of_ble_eq_true rfl) (dk DL_law_7 49 rfl) ⟨room_le3 (c := cells + 161) (b := rm_X12_thrown.cells) (K := 601024) rfl hc, room_le3 (c := slots + 7887) (b := rm_X12_thrown.slots) (K := 7293034) rfl hs⟩) (fun r3 h3 H locs hp3 hH => ?_)
 obtain ⟨e3, e4⟩ := hp3
 subst e4
 refine lv_iload X.x X.b (dk DL_law_7 50 rfl) (lv_at hl 5 rfl) ?_
 refine lv_icmp_eq (tgt := 920) X.x X.b (dk DL_law_7 51 rfl) (by decide) (fun _ => ?_) (fun z => absurd (e3.trans hx2) z)
 refine lv_iload X.x X.b (dk DL_law_7 54 rfl) (lv_at hl 5 rfl) ?_
 refine lv_if_ne (tgt := 944) X.x X.b (dk DL_law_7 55 rfl) (by decide) (fun c0 => ?_) (fun c0 => ?_)
 · refine lv_goto (tgt := 2497) X.x X.b (dk DL_law_8 8 rfl) (by decide) ?_
   exact kk _ _ _ _ hJ2 hH (lv_sub hl [0, 1, 2, 3, 4] rfl)
 · refine lv_aload_n X.x X.b (dk DL_law_7 56 rfl) rfl (lv_at hl 3 rfl) ?_
   refine lv_iconst (v := 0) X.x X.b (dk DL_law_7 57 rfl) (by decide) ?_
   have hr0 : r = 0 := by first | exact c0 | exact Decidable.not_not.mp c0
   refine mr_lald X hH hfo (show vp_in (nI 0) 1 from vp_in_nI (by decide) (by decide)) (dk DL_law_7 58 rfl) ?_
   rw [show ((0 : Int32).toNatClampNeg) = 0 from rfl]
   refine lv_iload X.x X.b (dk DL_law_7 59 rfl) (lv_at hl 6 rfl) ?_
   refine lv_if_eq (tgt := 937) X.x X.b (dk DL_law_8 0 rfl) (by decide) (fun c1 => ?_) (fun c1 => ?_)
   · refine lv_lconst (v := 0) X.x X.b (dk DL_law_8 3 rfl) (by decide) ?_
     refine W.lcmp X.x X.b (dk DL_law_8 4 rfl) ?_
     refine lv_if_eq (tgt := 944) X.x X.b (dk DL_law_8 5 rfl) (by decide) (fun _ => ?_) (fun z => absurd ((lg_cmp_eq _ _).mpr ((hv hr0).trans (if_pos (by rw [← e1]; exact c1)))) z)
     refine lv_goto (tgt := 2497) X.x X.b (dk DL_law_8 8 rfl) (by decide) ?_
     exact kk _ _ _ _ hJ2 hH (lv_sub hl [0, 1, 2, 3, 4] rfl)
   · refine lv_lconst (v := 1) X.x X.b (dk DL_law_8 1 rfl) (by decide) ?_
     refine lv_goto (tgt := 938) X.x X.b (dk DL_law_8 2 rfl) (by decide) ?_
     refine W.lcmp X.x X.b (dk DL_law_8 4 rfl) ?_
     refine lv_if_eq (tgt := 944) X.x X.b (dk DL_law_8 5 rfl) (by decide) (fun _ => ?_) (fun z => absurd ((lg_cmp_eq _ _).mpr ((hv hr0).trans (if_neg (by rw [← e1]; exact c1)))) z)
     refine lv_goto (tgt := 2497) X.x X.b (dk DL_law_8 8 rfl) (by decide) ?_
     exact kk _ _ _ _ hJ2 hH (lv_sub hl [0, 1, 2, 3, 4] rfl)
set_option maxHeartbeats 4000000 in
set_option maxRecDepth 100000 in
theorem lc_own {p : Program} {l : Launch} {e : Env} {s : State} {m : MethodId} {args : Array Value} {below : List Frame} {meth : Method} {c : Code} {G : mG} {L : Nat} {xs : Nat → Int32} {bS a b ao : Nat} (X : mX G p m c code 8 s args RL) (hX : va_X bS L xs s s.heap) (hbl : bS < s.heap.size) (hbA : ¬ mA G bS) {J : mM → Prop} (hJa : ∀ m, J m → ∃ fs, m a = some (.inr (LX11.1, fs))) (hAg : Ag_own l G J a b ao) {x4 A1 A2 A3 A4 A5 : Int32} (g1 : vp_in (x4 + 1) L ∧ xs (x4 + 1).toNatClampNeg = A1) (g2 : vp_in (x4 + 2) L ∧ xs (x4 + 2).toNatClampNeg = A2) (g3 : vp_in (x4 + 3) L ∧ xs (x4 + 3).toNatClampNeg = A3) (g4 : vp_in (x4 + 4) L ∧ xs (x4 + 4).toNatClampNeg = A4) (g5 : vp_in (x4 + 5) L ∧ xs (x4 + 5).toNatClampNeg = A5) {mm : mM} {H : Heap} {locs : List Loc} {ls : Array Slot} (hJ : J mm) (hH : mH G mm s.heap H locs) (hl : lv_has ls 8 [(0, .ref bS), (1, .ref a), (2, .ref b), (3, .ref ao), (4, .int x4)]) {cells slots : Nat} (hc : cells + 161 ≤ 601024) (hs : slots + 7887 ≤ 7293034) {Q : State → Prop}
    (kk : ∀ (mm : mM) (H : Heap) (locs : List Loc) (ls : Array Slot), J mm → mH G mm s.heap H locs → lv_has ls 8 [(0, .ref bS), (1, .ref a), (2, .ref b), (3, .ref ao), (4, .int x4)] → W p l e room_1 s m args below meth c H locs (cells + 161) (slots + 7887) Q (F0 m 2497 ls [])) :
    W p l e room_1 s m args below meth c H locs cells slots Q (F0 m 947 ls []) := by
 refine lv_aload_n X.x X.b (dk DL_law_8 9 rfl) rfl (lv_at hl 1 rfl) ?_
 refine lv_aload_n X.x X.b (dk DL_law_8 10 rfl) rfl (lv_at hl 0 rfl) ?_
 refine lv_iload X.x X.b (dk DL_law_8 11 rfl) (lv_at hl 4 rfl) ?_
 refine lv_iconst (v := 1) X.x X.b (dk DL_law_8 12 rfl) (by decide) ?_
 refine lv_iadd X.x X.b (dk DL_law_8 13 rfl) ?_
 refine lw_sld X hH hX hbl hbA g1.1 g1.2 (dk DL_law_8 14 rfl) ?_
 refine lv_aload_n X.x X.b (dk DL_law_8 15 rfl) rfl (lv_at hl 0 rfl) ?_
 refine lv_iload X.x X.b (dk DL_law_8 16 rfl) (lv_at hl 4 rfl) ?_
 refine lv_iconst (v := 2) X.x X.b (dk DL_law_8 17 rfl) (by decide) ?_
 refine lv_iadd X.x X.b (dk DL_law_8 18 rfl) ?_
 refine lw_sld X hH hX hbl hbA g2.1 g2.2 (dk DL_law_8 19 rfl) ?_
 refine lv_if_eq (tgt := 967) X.x X.b (dk DL_law_8 20 rfl) (by decide) (fun cb => ?_) (fun cb => ?_)
 · refine lv_iconst (v := 0) X.x X.b (dk DL_law_8 23 rfl) (by decide) ?_
   refine lv_aload_n X.x X.b (dk DL_law_8 24 rfl) rfl (lv_at hl 3 rfl) ?_
   obtain ⟨Pm, hC, hP⟩ := hAg mm A1 0 hJ (by decide)
   refine mr_xi hH (mr_hrunS (As := [.ref a, .int A1, .int 0, .ref ao]) (rest := []) X hH hC kM_L_164 kT_L_own kN_L kW_L_own hd_L_own ⟨Nat.le_of_ble_eq_true rfl, Nat.le_of_ble_eq_true rfl⟩ rfl hl.1 (Nat.le_of_ble_eq_true rfl) (dk DL_law_8 25 rfl) ⟨room_le1 (a := rm_L_own.cells) (x := 1) (K := 601024) rfl (by omega), room_le1 (a := rm_L_own.slots) (x := 6) (K := 7293034) rfl (by omega)⟩) (fun E h1 q9 H locs hp hH hth => hp.elim) (fun r h1 H locs hp hH => ?_)
   obtain ⟨q, st, x, bv, fo, hqb, hq, hm, hF, hx2, hfo, hv, hJ2⟩ := hP r h1 hp
   refine W.widen (k := cells + 161) (n := slots + 7887) (room_le1 (a := rm_L_own.cells) (x := 1) rfl (by omega)) (room_le1 (a := rm_L_own.slots) (x := 6) rfl (by omega)) ?_
   subst hqb
   have hR := c_X12_own (l := l) (G := G) (h := h1) hq hF
   rw [hm] at hR
   have hroot := (oset_at (G := G) (st := st) (h := h1) hq (Nat.le_refl _) ohas_N).trans (congrArg some ocell_N)
   rw [hm] at hroot
   have hroot2 := (oset_at (G := G) (st := x) (h := h1) hq (Nat.le_refl _) ohas_N).trans (congrArg some ocell_N)
   refine lv_istore (lv' := [(5, .int r), (0, .ref bS), (1, .ref a), (2, .ref (q 53)), (3, .ref ao), (4, .int x4)]) X.x X.b (dk DL_law_8 26 rfl) hl (by decide) rfl (fun ls hl => ?_)
   replace hl : lv_has ls 8 [(0, .ref bS), (1, .ref a), (2, .ref (q 53)), (3, .ref ao), (4, .int x4), (5, .int r)] := lv_sub hl [1, 2, 3, 4, 5, 0] rfl
   refine lv_aload_n X.x X.b (dk DL_law_8 27 rfl) rfl (lv_at hl 2 rfl) ?_
   refine lv_aload_n X.x X.b (dk DL_law_8 28 rfl) rfl (lv_at hl 0 rfl) ?_
   refine lv_iload X.x X.b (dk DL_law_8 29 rfl) (lv_at hl 4 rfl) ?_
   refine lv_iconst (v := 1) X.x X.b (dk DL_law_8 30 rfl) (by decide) ?_
   refine lv_iadd X.x X.b (dk DL_law_8 31 rfl) ?_
   refine lw_sld X hH hX hbl hbA g1.1 g1.2 (dk DL_law_8 32 rfl) ?_
   refine lv_aload_n X.x X.b (dk DL_law_8 33 rfl) rfl (lv_at hl 0 rfl) ?_
   refine lv_iload X.x X.b (dk DL_law_8 34 rfl) (lv_at hl 4 rfl) ?_
   refine lv_iconst (v := 2) X.x X.b (dk DL_law_8 35 rfl) (by decide) ?_
   refine lv_iadd X.x X.b (dk DL_law_8 36 rfl) ?_
   refine lw_sld X hH hX hbl hbA g2.1 g2.2 (dk DL_law_8 37 rfl) ?_
   refine lv_if_eq (tgt := 994) X.x X.b (dk DL_law_8 38 rfl) (by decide) (fun _ => ?_) (fun z => absurd cb z)
   refine lv_iconst (v := 0) X.x X.b (dk DL_law_8 41 rfl) (by decide) ?_
   refine mr_ci0 hH ⟨rfl, rfl⟩ (mr_runV (As := [.int A1, .int 0]) (rest := []) X hH hR hroot OX12.1 kM_L_167 kI_X12_own kS_X12_own kN_X12 kC_X12_own hd_X12_own ⟨Nat.le_of_ble_eq_true rfl, Nat.le_of_ble_eq_true rfl⟩ rfl hl.1 (Nat.le_of_ble_eq_true rfl) (dk DL_law_8 42 rfl) ⟨room_le3 (c := cells + 161) (b := rm_X12_own.cells) (K := 601024) rfl hc, room_le3 (c := slots + 7887) (b := rm_X12_own.slots) (K := 7293034) rfl hs⟩) (fun r2 h2 H locs hp2 hH => ?_)
   replace hp2 : r2 = bv ∧ h2 = oset LX12 G q x h1 := hp2
   obtain ⟨e1, e2⟩ := hp2
   subst e2
   refine lv_istore (lv' := [(6, .int r2), (0, .ref bS), (1, .ref a), (2, .ref (q 53)), (3, .ref ao), (4, .int x4), (5, .int r)]) X.x X.b (dk DL_law_8 43 rfl) hl (by decide) rfl (fun ls hl => ?_)
   replace hl : lv_has ls 8 [(0, .ref bS), (1, .ref a), (2, .ref (q 53)), (3, .ref ao), (4, .int x4), (5, .int r), (6, .int r2)] := lv_sub hl [1, 2, 3, 4, 5, 6, 0] rfl
   refine lv_aload_n X.x X.b (dk DL_law_8 44 rfl) rfl (lv_at hl 2 rfl) ?_
   refine mr_ci0 hH ⟨rfl, rfl⟩ (mr_runV (As := []) (rest := []) X hH (c_X12_thrown (l := l) (G := G) (h := h1) hq (st := x) (x := x.1 2) rfl) hroot2 OX12.1 kM_L_128 kI_X12_thrown kS_X12_thrown kN_X12 kC_X12_thrown hd_X12_thrown ⟨Nat.le_of_ble_eq_true rfl, Nat.le_of_ble_eq_true rfl⟩ rfl hl.1 (Nat.le_of_ble_eq_true rfl) (dk DL_law_8 45 rfl) ⟨room_le3 (c := cells + 161) (b := rm_X12_thrown.cells) (K := 601024) rfl hc, room_le3 (c := slots + 7887) (b := rm_X12_thrown.slots) (K := 7293034) rfl hs⟩) (fun r3 h3 H locs hp3 hH => ?_)
   obtain ⟨e3, e4⟩ := hp3
   subst e4
   refine lv_iload X.x X.b (dk DL_law_8 46 rfl) (lv_at hl 5 rfl) ?_
   refine lv_icmp_eq (tgt := 1011) X.x X.b (dk DL_law_8 47 rfl) (by decide) (fun _ => ?_) (fun z => absurd (e3.trans hx2) z)
   refine lv_iload X.x X.b (dk DL_law_8 50 rfl) (lv_at hl 5 rfl) ?_
   refine lv_if_ne (tgt := 1028) X.x X.b (dk DL_law_8 51 rfl) (by decide) (fun c0 => ?_) (fun c0 => ?_)
   · refine lv_goto (tgt := 2497) X.x X.b (dk DL_law_9 1 rfl) (by decide) ?_
     exact kk _ _ _ _ hJ2 hH (lv_sub hl [0, 1, 2, 3, 4] rfl)
   · refine lv_aload_n X.x X.b (dk DL_law_8 52 rfl) rfl (lv_at hl 3 rfl) ?_
     refine lv_iconst (v := 0) X.x X.b (dk DL_law_8 53 rfl) (by decide) ?_
     have hr0 : r = 0 := by first | exact c0 | exact Decidable.not_not.mp c0
     refine mr_lald X hH hfo (show vp_in (nI 0) 1 from vp_in_nI (by decide) (by decide)) (dk DL_law_8 54 rfl) ?_
     rw [show ((0 : Int32).toNatClampNeg) = 0 from rfl]
     refine lv_iload X.x X.b (dk DL_law_8 55 rfl) (lv_at hl 6 rfl) ?_
     refine lv_i2l X.x X.b (dk DL_law_8 56 rfl) rfl ?_
     refine W.lcmp X.x X.b (dk DL_law_8 57 rfl) ?_
     refine lv_if_eq (tgt := 1028) X.x X.b (dk DL_law_8 58 rfl) (by decide) (fun _ => ?_) (fun z => absurd ((lg_cmp_eq _ _).mpr ((hv hr0).trans (by rw [e1]))) z)
     refine lv_goto (tgt := 2497) X.x X.b (dk DL_law_9 1 rfl) (by decide) ?_
     exact kk _ _ _ _ hJ2 hH (lv_sub hl [0, 1, 2, 3, 4] rfl)
 · refine lv_iconst (v := 1) X.x X.b (dk DL_law_8 21 rfl) (by decide) ?_
   refine lv_goto (tgt := 968) X.x X.b (dk DL_law_8 22 rfl) (by decide) ?_
   refine lv_aload_n X.x X.b (dk DL_law_8 24 rfl) rfl (lv_at hl 3 rfl) ?_
   obtain ⟨Pm, hC, hP⟩ := hAg mm A1 1 hJ (by decide)
   refine mr_xi hH (mr_hrunS (As := [.ref a, .int A1, .int 1, .ref ao]) (rest := []) X hH hC kM_L_164 kT_L_own kN_L kW_L_own hd_L_own ⟨Nat.le_of_ble_eq_true rfl, Nat.le_of_ble_eq_true rfl⟩ rfl hl.1 (Nat.le_of_ble_eq_true rfl) (dk DL_law_8 25 rfl) ⟨room_le1 (a := rm_L_own.cells) (x := 1) (K := 601024) rfl (by omega), room_le1 (a := rm_L_own.slots) (x := 6) (K := 7293034) rfl (by omega)⟩) (fun E h1 q9 H locs hp hH hth => hp.elim) (fun r h1 H locs hp hH => ?_)
   obtain ⟨q, st, x, bv, fo, hqb, hq, hm, hF, hx2, hfo, hv, hJ2⟩ := hP r h1 hp
   refine W.widen (k := cells + 161) (n := slots + 7887) (room_le1 (a := rm_L_own.cells) (x := 1) rfl (by omega)) (room_le1 (a := rm_L_own.slots) (x := 6) rfl (by omega)) ?_
   subst hqb
   have hR := c_X12_own (l := l) (G := G) (h := h1) hq hF
   rw [hm] at hR
   have hroot := (oset_at (G := G) (st := st) (h := h1) hq (Nat.le_refl _) ohas_N).trans (congrArg some ocell_N)
   rw [hm] at hroot
   have hroot2 := (oset_at (G := G) (st := x) (h := h1) hq (Nat.le_refl _) ohas_N).trans (congrArg some ocell_N)
   refine lv_istore (lv' := [(5, .int r), (0, .ref bS), (1, .ref a), (2, .ref (q 53)), (3, .ref ao), (4, .int x4)]) X.x X.b (dk DL_law_8 26 rfl) hl (by decide) rfl (fun ls hl => ?_)
   replace hl : lv_has ls 8 [(0, .ref bS), (1, .ref a), (2, .ref (q 53)), (3, .ref ao), (4, .int x4), (5, .int r)] := lv_sub hl [1, 2, 3, 4, 5, 0] rfl
   refine lv_aload_n X.x X.b (dk DL_law_8 27 rfl) rfl (lv_at hl 2 rfl) ?_
   refine lv_aload_n X.x X.b (dk DL_law_8 28 rfl) rfl (lv_at hl 0 rfl) ?_
   refine lv_iload X.x X.b (dk DL_law_8 29 rfl) (lv_at hl 4 rfl) ?_
   refine lv_iconst (v := 1) X.x X.b (dk DL_law_8 30 rfl) (by decide) ?_
   refine lv_iadd X.x X.b (dk DL_law_8 31 rfl) ?_
   refine lw_sld X hH hX hbl hbA g1.1 g1.2 (dk DL_law_8 32 rfl) ?_
   refine lv_aload_n X.x X.b (dk DL_law_8 33 rfl) rfl (lv_at hl 0 rfl) ?_
   refine lv_iload X.x X.b (dk DL_law_8 34 rfl) (lv_at hl 4 rfl) ?_
   refine lv_iconst (v := 2) X.x X.b (dk DL_law_8 35 rfl) (by decide) ?_
   refine lv_iadd X.x X.b (dk DL_law_8 36 rfl) ?_
   refine lw_sld X hH hX hbl hbA g2.1 g2.2 (dk DL_law_8 37 rfl) ?_
   refine lv_if_eq (tgt := 994) X.x X.b (dk DL_law_8 38 rfl) (by decide) (fun z => absurd z cb) (fun _ => ?_)
   refine lv_iconst (v := 1) X.x X.b (dk DL_law_8 39 rfl) (by decide) ?_
   refine lv_goto (tgt := 995) X.x X.b (dk DL_law_8 40 rfl) (by decide) ?_
   refine mr_ci0 hH ⟨rfl, rfl⟩ (mr_runV (As := [.int A1, .int 1]) (rest := []) X hH hR hroot OX12.1 kM_L_167 kI_X12_own kS_X12_own kN_X12 kC_X12_own hd_X12_own ⟨Nat.le_of_ble_eq_true rfl, Nat.le_of_ble_eq_true rfl⟩ rfl hl.1 (Nat.le_of_ble_eq_true rfl) (dk DL_law_8 42 rfl) ⟨room_le3 (c := cells + 161) (b := rm_X12_own.cells) (K := 601024) rfl hc, room_le3 (c := slots + 7887) (b := rm_X12_own.slots) (K := 7293034) rfl hs⟩) (fun r2 h2 H locs hp2 hH => ?_)
   replace hp2 : r2 = bv ∧ h2 = oset LX12 G q x h1 := hp2
   obtain ⟨e1, e2⟩ := hp2
   subst e2
   refine lv_istore (lv' := [(6, .int r2), (0, .ref bS), (1, .ref a), (2, .ref (q 53)), (3, .ref ao), (4, .int x4), (5, .int r)]) X.x X.b (dk DL_law_8 43 rfl) hl (by decide) rfl (fun ls hl => ?_)
   replace hl : lv_has ls 8 [(0, .ref bS), (1, .ref a), (2, .ref (q 53)), (3, .ref ao), (4, .int x4), (5, .int r), (6, .int r2)] := lv_sub hl [1, 2, 3, 4, 5, 6, 0] rfl
   refine lv_aload_n X.x X.b (dk DL_law_8 44 rfl) rfl (lv_at hl 2 rfl) ?_
   refine mr_ci0 hH ⟨rfl, rfl⟩ (mr_runV (As := []) (rest := []) X hH (c_X12_thrown (l := l) (G := G) (h := h1) hq (st := x) (x := x.1 2) rfl) hroot2 OX12.1 kM_L_128 kI_X12_thrown kS_X12_thrown kN_X12 kC_X12_thrown hd_X12_thrown ⟨Nat.le_of_ble_eq_true rfl, Nat.le_of_ble_eq_true rfl⟩ rfl hl.1 (Nat.le_of_ble_eq_true rfl) (dk DL_law_8 45 rfl) ⟨room_le3 (c := cells + 161) (b := rm_X12_thrown.cells) (K := 601024) rfl hc, room_le3 (c := slots + 7887) (b := rm_X12_thrown.slots) (K := 7293034) rfl hs⟩) (fun r3 h3 H locs hp3 hH => ?_)
   obtain ⟨e3, e4⟩ := hp3
   subst e4
   refine lv_iload X.x X.b (dk DL_law_8 46 rfl) (lv_at hl 5 rfl) ?_
   refine lv_icmp_eq (tgt := 1011) X.x X.b (dk DL_law_8 47 rfl) (by decide) (fun _ => ?_) (fun z => absurd (e3.trans hx2) z)
   refine lv_iload X.x X.b (dk DL_law_8 50 rfl) (lv_at hl 5 rfl) ?_
   refine lv_if_ne (tgt := 1028) X.x X.b (dk DL_law_8 51 rfl) (by decide) (fun c0 => ?_) (fun c0 => ?_)
   · refine lv_goto (tgt := 2497) X.x X.b (dk DL_law_9 1 rfl) (by decide) ?_
     exact kk _ _ _ _ hJ2 hH (lv_sub hl [0, 1, 2, 3, 4] rfl)
   · refine lv_aload_n X.x X.b (dk DL_law_8 52 rfl) rfl (lv_at hl 3 rfl) ?_
     refine lv_iconst (v := 0) X.x X.b (dk DL_law_8 53 rfl) (by decide) ?_
     have hr0 : r = 0 := by first | exact c0 | exact Decidable.not_not.mp c0
     refine mr_lald X hH hfo (show vp_in (nI 0) 1 from vp_in_nI (by decide) (by decide)) (dk DL_law_8 54 rfl) ?_
     rw [show ((0 : Int32).toNatClampNeg) = 0 from rfl]
     refine lv_iload X.x X.b (dk DL_law_8 55 rfl) (lv_at hl 6 rfl) ?_
     refine lv_i2l X.x X.b (dk DL_law_8 56 rfl) rfl ?_
     refine W.lcmp X.x X.b (dk DL_law_8 57 rfl) ?_
     refine lv_if_eq (tgt := 1028) X.x X.b (dk DL_law_8 58 rfl) (by decide) (fun _ => ?_) (fun z => absurd ((lg_cmp_eq _ _).mpr ((hv hr0).trans (by rw [e1]))) z)
     refine lv_goto (tgt := 2497) X.x X.b (dk DL_law_9 1 rfl) (by decide) ?_
     exact kk _ _ _ _ hJ2 hH (lv_sub hl [0, 1, 2, 3, 4] rfl)
set_option maxHeartbeats 4000000 in
set_option maxRecDepth 100000 in
theorem lc_law {p : Program} {l : Launch} {e : Env} {s : State} {m : MethodId} {args : Array Value} {below : List Frame} {meth : Method} {c : Code} {G : mG} {L : Nat} {xs : Nat → Int32} {bS a b ao : Nat} (X : mX G p m c code 8 s args RL) (hX : va_X bS L xs s s.heap) (hbl : bS < s.heap.size) (hbA : ¬ mA G bS) {J : mM → Prop} (hJa : ∀ m, J m → ∃ fs, m a = some (.inr (LX11.1, fs))) (hAg : Ag_law l G J a b ao) {x4 A1 A2 A3 A4 A5 : Int32} (g1 : vp_in (x4 + 1) L ∧ xs (x4 + 1).toNatClampNeg = A1) (g2 : vp_in (x4 + 2) L ∧ xs (x4 + 2).toNatClampNeg = A2) (g3 : vp_in (x4 + 3) L ∧ xs (x4 + 3).toNatClampNeg = A3) (g4 : vp_in (x4 + 4) L ∧ xs (x4 + 4).toNatClampNeg = A4) (g5 : vp_in (x4 + 5) L ∧ xs (x4 + 5).toNatClampNeg = A5) {mm : mM} {H : Heap} {locs : List Loc} {ls : Array Slot} (hJ : J mm) (hH : mH G mm s.heap H locs) (hl : lv_has ls 8 [(0, .ref bS), (1, .ref a), (2, .ref b), (3, .ref ao), (4, .int x4)]) {cells slots : Nat} (hc : cells + 161 ≤ 601024) (hs : slots + 7887 ≤ 7293034) {Q : State → Prop}
    (kk : ∀ (mm : mM) (H : Heap) (locs : List Loc) (ls : Array Slot), J mm → mH G mm s.heap H locs → lv_has ls 8 [(0, .ref bS), (1, .ref a), (2, .ref b), (3, .ref ao), (4, .int x4)] → W p l e room_1 s m args below meth c H locs (cells + 161) (slots + 7887) Q (F0 m 2497 ls [])) :
    W p l e room_1 s m args below meth c H locs cells slots Q (F0 m 1031 ls []) := by
 refine lv_aload_n X.x X.b (dk DL_law_9 2 rfl) rfl (lv_at hl 1 rfl) ?_
 obtain ⟨Pm, hC, hP⟩ := hAg mm  hJ
 obtain ⟨fs, ha⟩ := hJa mm hJ
 refine mr_ci hH (mr_runV (As := []) (rest := []) X hH hC ha OX11.1 kM_L_168 kI_X11_law kS_X11_law kN_X11 kC_X11_law hd_X11_law ⟨Nat.le_of_ble_eq_true rfl, Nat.le_of_ble_eq_true rfl⟩ rfl hl.1 (Nat.le_of_ble_eq_true rfl) (dk DL_law_9 3 rfl) ⟨room_le1 (a := rm_X11_law.cells) (x := 0) (K := 601024) rfl (by omega), room_le1 (a := rm_X11_law.slots) (x := 0) (K := 7293034) rfl (by omega)⟩) (fun r h1 H locs hp hH => ?_)
 obtain ⟨q, st, x, hqb, hq, hm, hF, hJ2⟩ := hP r h1 hp
 refine W.widen (k := cells + 161) (n := slots + 7887) (room_le1 (a := rm_X11_law.cells) (x := 0) rfl (by omega)) (room_le1 (a := rm_X11_law.slots) (x := 0) rfl (by omega)) ?_
 subst hqb
 have hR := c_X12_law (l := l) (G := G) (h := h1) hq hF
 rw [hm] at hR
 have hroot := (oset_at (G := G) (st := st) (h := h1) hq (Nat.le_refl _) ohas_N).trans (congrArg some ocell_N)
 rw [hm] at hroot
 have hroot2 := (oset_at (G := G) (st := x) (h := h1) hq (Nat.le_refl _) ohas_N).trans (congrArg some ocell_N)
 refine lv_aload_n X.x X.b (dk DL_law_9 4 rfl) rfl (lv_at hl 2 rfl) ?_
 refine mr_ci0 hH ⟨rfl, rfl⟩ (mr_runV (As := []) (rest := [.int r]) X hH hR hroot OX12.1 kM_L_171 kI_X12_law kS_X12_law kN_X12 kC_X12_law hd_X12_law ⟨Nat.le_of_ble_eq_true rfl, Nat.le_of_ble_eq_true rfl⟩ rfl hl.1 (Nat.le_of_ble_eq_true rfl) (dk DL_law_9 5 rfl) ⟨room_le3 (c := cells + 161) (b := rm_X12_law.cells) (K := 601024) rfl hc, room_le3 (c := slots + 7887) (b := rm_X12_law.slots) (K := 7293034) rfl hs⟩) (fun r2 h2 H locs hp2 hH => ?_)
 replace hp2 : r2 = r ∧ h2 = oset LX12 G q x h1 := hp2
 obtain ⟨e1, e2⟩ := hp2
 subst e2
 refine lv_icmp_eq (tgt := 2497) X.x X.b (dk DL_law_9 6 rfl) (by decide) (fun _ => ?_) (fun z => absurd e1.symm z)
 exact kk _ _ _ _ hJ2 hH (lv_sub hl [0, 1, 2, 3, 4] rfl)
set_option maxHeartbeats 4000000 in
set_option maxRecDepth 100000 in
theorem lc_order {p : Program} {l : Launch} {e : Env} {s : State} {m : MethodId} {args : Array Value} {below : List Frame} {meth : Method} {c : Code} {G : mG} {L : Nat} {xs : Nat → Int32} {bS a b ao : Nat} (X : mX G p m c code 8 s args RL) (hX : va_X bS L xs s s.heap) (hbl : bS < s.heap.size) (hbA : ¬ mA G bS) {J : mM → Prop} (hJa : ∀ m, J m → ∃ fs, m a = some (.inr (LX11.1, fs))) (hAg : Ag_order l G J a b ao) {x4 A1 A2 A3 A4 A5 : Int32} (g1 : vp_in (x4 + 1) L ∧ xs (x4 + 1).toNatClampNeg = A1) (g2 : vp_in (x4 + 2) L ∧ xs (x4 + 2).toNatClampNeg = A2) (g3 : vp_in (x4 + 3) L ∧ xs (x4 + 3).toNatClampNeg = A3) (g4 : vp_in (x4 + 4) L ∧ xs (x4 + 4).toNatClampNeg = A4) (g5 : vp_in (x4 + 5) L ∧ xs (x4 + 5).toNatClampNeg = A5) {mm : mM} {H : Heap} {locs : List Loc} {ls : Array Slot} (hJ : J mm) (hH : mH G mm s.heap H locs) (hl : lv_has ls 8 [(0, .ref bS), (1, .ref a), (2, .ref b), (3, .ref ao), (4, .int x4)]) {cells slots : Nat} (hc : cells + 161 ≤ 601024) (hs : slots + 7887 ≤ 7293034) {Q : State → Prop}
    (kk : ∀ (mm : mM) (H : Heap) (locs : List Loc) (ls : Array Slot), J mm → mH G mm s.heap H locs → lv_has ls 8 [(0, .ref bS), (1, .ref a), (2, .ref b), (3, .ref ao), (4, .int x4)] → W p l e room_1 s m args below meth c H locs (cells + 161) (slots + 7887) Q (F0 m 2497 ls [])) :
    W p l e room_1 s m args below meth c H locs cells slots Q (F0 m 1044 ls []) := by
 refine lv_aload_n X.x X.b (dk DL_law_9 9 rfl) rfl (lv_at hl 1 rfl) ?_
 refine lv_aload_n X.x X.b (dk DL_law_9 10 rfl) rfl (lv_at hl 0 rfl) ?_
 refine lv_iload X.x X.b (dk DL_law_9 11 rfl) (lv_at hl 4 rfl) ?_
 refine lv_iconst (v := 1) X.x X.b (dk DL_law_9 12 rfl) (by decide) ?_
 refine lv_iadd X.x X.b (dk DL_law_9 13 rfl) ?_
 refine lw_sld X hH hX hbl hbA g1.1 g1.2 (dk DL_law_9 14 rfl) ?_
 refine lv_if_eq (tgt := 1058) X.x X.b (dk DL_law_9 15 rfl) (by decide) (fun cb => ?_) (fun cb => ?_)
 · refine lv_iconst (v := 0) X.x X.b (dk DL_law_9 18 rfl) (by decide) ?_
   obtain ⟨Pm, hC, hP⟩ := hAg mm 0 hJ (by decide)
   obtain ⟨fs, ha⟩ := hJa mm hJ
   refine mr_ci hH (mr_runV (As := [.int 0]) (rest := []) X hH hC ha OX11.1 kM_L_172 kI_X11_order kS_X11_order kN_X11 kC_X11_order hd_X11_order ⟨Nat.le_of_ble_eq_true rfl, Nat.le_of_ble_eq_true rfl⟩ rfl hl.1 (Nat.le_of_ble_eq_true rfl) (dk DL_law_9 19 rfl) ⟨room_le1 (a := rm_X11_order.cells) (x := 0) (K := 601024) rfl (by omega), room_le1 (a := rm_X11_order.slots) (x := 0) (K := 7293034) rfl (by omega)⟩) (fun r h1 H locs hp hH => ?_)
   obtain ⟨q, st, x, hqb, hq, hm, hF, hJ2⟩ := hP r h1 hp
   refine W.widen (k := cells + 161) (n := slots + 7887) (room_le1 (a := rm_X11_order.cells) (x := 0) rfl (by omega)) (room_le1 (a := rm_X11_order.slots) (x := 0) rfl (by omega)) ?_
   subst hqb
   have hR := c_X12_order (l := l) (G := G) (h := h1) hq hF
   rw [hm] at hR
   have hroot := (oset_at (G := G) (st := st) (h := h1) hq (Nat.le_refl _) ohas_N).trans (congrArg some ocell_N)
   rw [hm] at hroot
   have hroot2 := (oset_at (G := G) (st := x) (h := h1) hq (Nat.le_refl _) ohas_N).trans (congrArg some ocell_N)
   refine lv_aload_n X.x X.b (dk DL_law_9 20 rfl) rfl (lv_at hl 2 rfl) ?_
   refine lv_aload_n X.x X.b (dk DL_law_9 21 rfl) rfl (lv_at hl 0 rfl) ?_
   refine lv_iload X.x X.b (dk DL_law_9 22 rfl) (lv_at hl 4 rfl) ?_
   refine lv_iconst (v := 1) X.x X.b (dk DL_law_9 23 rfl) (by decide) ?_
   refine lv_iadd X.x X.b (dk DL_law_9 24 rfl) ?_
   refine lw_sld X hH hX hbl hbA g1.1 g1.2 (dk DL_law_9 25 rfl) ?_
   refine lv_if_eq (tgt := 1076) X.x X.b (dk DL_law_9 26 rfl) (by decide) (fun _ => ?_) (fun z => absurd cb z)
   refine lv_iconst (v := 0) X.x X.b (dk DL_law_9 29 rfl) (by decide) ?_
   refine mr_ci0 hH ⟨rfl, rfl⟩ (mr_runV (As := [.int 0]) (rest := [.int r]) X hH hR hroot OX12.1 kM_L_176 kI_X12_order kS_X12_order kN_X12 kC_X12_order hd_X12_order ⟨Nat.le_of_ble_eq_true rfl, Nat.le_of_ble_eq_true rfl⟩ rfl hl.1 (Nat.le_of_ble_eq_true rfl) (dk DL_law_9 30 rfl) ⟨room_le3 (c := cells + 161) (b := rm_X12_order.cells) (K := 601024) rfl hc, room_le3 (c := slots + 7887) (b := rm_X12_order.slots) (K := 7293034) rfl hs⟩) (fun r2 h2 H locs hp2 hH => ?_)
   replace hp2 : r2 = r ∧ h2 = oset LX12 G q x h1 := hp2
   obtain ⟨e1, e2⟩ := hp2
   subst e2
   refine lv_icmp_eq (tgt := 2497) X.x X.b (dk DL_law_9 31 rfl) (by decide) (fun _ => ?_) (fun z => absurd e1.symm z)
   exact kk _ _ _ _ hJ2 hH (lv_sub hl [0, 1, 2, 3, 4] rfl)
 · refine lv_iconst (v := 1) X.x X.b (dk DL_law_9 16 rfl) (by decide) ?_
   refine lv_goto (tgt := 1059) X.x X.b (dk DL_law_9 17 rfl) (by decide) ?_
   obtain ⟨Pm, hC, hP⟩ := hAg mm 1 hJ (by decide)
   obtain ⟨fs, ha⟩ := hJa mm hJ
   refine mr_ci hH (mr_runV (As := [.int 1]) (rest := []) X hH hC ha OX11.1 kM_L_172 kI_X11_order kS_X11_order kN_X11 kC_X11_order hd_X11_order ⟨Nat.le_of_ble_eq_true rfl, Nat.le_of_ble_eq_true rfl⟩ rfl hl.1 (Nat.le_of_ble_eq_true rfl) (dk DL_law_9 19 rfl) ⟨room_le1 (a := rm_X11_order.cells) (x := 0) (K := 601024) rfl (by omega), room_le1 (a := rm_X11_order.slots) (x := 0) (K := 7293034) rfl (by omega)⟩) (fun r h1 H locs hp hH => ?_)
   obtain ⟨q, st, x, hqb, hq, hm, hF, hJ2⟩ := hP r h1 hp
   refine W.widen (k := cells + 161) (n := slots + 7887) (room_le1 (a := rm_X11_order.cells) (x := 0) rfl (by omega)) (room_le1 (a := rm_X11_order.slots) (x := 0) rfl (by omega)) ?_
   subst hqb
   have hR := c_X12_order (l := l) (G := G) (h := h1) hq hF
   rw [hm] at hR
   have hroot := (oset_at (G := G) (st := st) (h := h1) hq (Nat.le_refl _) ohas_N).trans (congrArg some ocell_N)
   rw [hm] at hroot
   have hroot2 := (oset_at (G := G) (st := x) (h := h1) hq (Nat.le_refl _) ohas_N).trans (congrArg some ocell_N)
   refine lv_aload_n X.x X.b (dk DL_law_9 20 rfl) rfl (lv_at hl 2 rfl) ?_
   refine lv_aload_n X.x X.b (dk DL_law_9 21 rfl) rfl (lv_at hl 0 rfl) ?_
   refine lv_iload X.x X.b (dk DL_law_9 22 rfl) (lv_at hl 4 rfl) ?_
   refine lv_iconst (v := 1) X.x X.b (dk DL_law_9 23 rfl) (by decide) ?_
   refine lv_iadd X.x X.b (dk DL_law_9 24 rfl) ?_
   refine lw_sld X hH hX hbl hbA g1.1 g1.2 (dk DL_law_9 25 rfl) ?_
   refine lv_if_eq (tgt := 1076) X.x X.b (dk DL_law_9 26 rfl) (by decide) (fun z => absurd z cb) (fun _ => ?_)
   refine lv_iconst (v := 1) X.x X.b (dk DL_law_9 27 rfl) (by decide) ?_
   refine lv_goto (tgt := 1077) X.x X.b (dk DL_law_9 28 rfl) (by decide) ?_
   refine mr_ci0 hH ⟨rfl, rfl⟩ (mr_runV (As := [.int 1]) (rest := [.int r]) X hH hR hroot OX12.1 kM_L_176 kI_X12_order kS_X12_order kN_X12 kC_X12_order hd_X12_order ⟨Nat.le_of_ble_eq_true rfl, Nat.le_of_ble_eq_true rfl⟩ rfl hl.1 (Nat.le_of_ble_eq_true rfl) (dk DL_law_9 30 rfl) ⟨room_le3 (c := cells + 161) (b := rm_X12_order.cells) (K := 601024) rfl hc, room_le3 (c := slots + 7887) (b := rm_X12_order.slots) (K := 7293034) rfl hs⟩) (fun r2 h2 H locs hp2 hH => ?_)
   replace hp2 : r2 = r ∧ h2 = oset LX12 G q x h1 := hp2
   obtain ⟨e1, e2⟩ := hp2
   subst e2
   refine lv_icmp_eq (tgt := 2497) X.x X.b (dk DL_law_9 31 rfl) (by decide) (fun _ => ?_) (fun z => absurd e1.symm z)
   exact kk _ _ _ _ hJ2 hH (lv_sub hl [0, 1, 2, 3, 4] rfl)
set_option maxHeartbeats 4000000 in
set_option maxRecDepth 100000 in
theorem lc_meets {p : Program} {l : Launch} {e : Env} {s : State} {m : MethodId} {args : Array Value} {below : List Frame} {meth : Method} {c : Code} {G : mG} {L : Nat} {xs : Nat → Int32} {bS a b ao : Nat} (X : mX G p m c code 8 s args RL) (hX : va_X bS L xs s s.heap) (hbl : bS < s.heap.size) (hbA : ¬ mA G bS) {J : mM → Prop} (hJa : ∀ m, J m → ∃ fs, m a = some (.inr (LX11.1, fs))) (hAg : Ag_meets l G J a b ao) {x4 A1 A2 A3 A4 A5 : Int32} (g1 : vp_in (x4 + 1) L ∧ xs (x4 + 1).toNatClampNeg = A1) (g2 : vp_in (x4 + 2) L ∧ xs (x4 + 2).toNatClampNeg = A2) (g3 : vp_in (x4 + 3) L ∧ xs (x4 + 3).toNatClampNeg = A3) (g4 : vp_in (x4 + 4) L ∧ xs (x4 + 4).toNatClampNeg = A4) (g5 : vp_in (x4 + 5) L ∧ xs (x4 + 5).toNatClampNeg = A5) {mm : mM} {H : Heap} {locs : List Loc} {ls : Array Slot} (hJ : J mm) (hH : mH G mm s.heap H locs) (hl : lv_has ls 8 [(0, .ref bS), (1, .ref a), (2, .ref b), (3, .ref ao), (4, .int x4)]) {cells slots : Nat} (hc : cells + 161 ≤ 601024) (hs : slots + 7887 ≤ 7293034) {Q : State → Prop}
    (kk : ∀ (mm : mM) (H : Heap) (locs : List Loc) (ls : Array Slot), J mm → mH G mm s.heap H locs → lv_has ls 8 [(0, .ref bS), (1, .ref a), (2, .ref b), (3, .ref ao), (4, .int x4)] → W p l e room_1 s m args below meth c H locs (cells + 161) (slots + 7887) Q (F0 m 2497 ls [])) :
    W p l e room_1 s m args below meth c H locs cells slots Q (F0 m 1085 ls []) := by
 refine lv_aload_n X.x X.b (dk DL_law_9 34 rfl) rfl (lv_at hl 1 rfl) ?_
 refine lv_aload_n X.x X.b (dk DL_law_9 35 rfl) rfl (lv_at hl 0 rfl) ?_
 refine lv_iload X.x X.b (dk DL_law_9 36 rfl) (lv_at hl 4 rfl) ?_
 refine lv_iconst (v := 1) X.x X.b (dk DL_law_9 37 rfl) (by decide) ?_
 refine lv_iadd X.x X.b (dk DL_law_9 38 rfl) ?_
 refine lw_sld X hH hX hbl hbA g1.1 g1.2 (dk DL_law_9 39 rfl) ?_
 refine lv_i2l X.x X.b (dk DL_law_9 40 rfl) rfl ?_
 refine lv_bipush (v := 32) X.x X.b (dk DL_law_9 41 rfl) (by decide) ?_
 refine lv_lshl X.x X.b (dk DL_law_9 42 rfl) rfl ?_
 refine lv_aload_n X.x X.b (dk DL_law_9 43 rfl) rfl (lv_at hl 0 rfl) ?_
 refine lv_iload X.x X.b (dk DL_law_9 44 rfl) (lv_at hl 4 rfl) ?_
 refine lv_iconst (v := 2) X.x X.b (dk DL_law_9 45 rfl) (by decide) ?_
 refine lv_iadd X.x X.b (dk DL_law_9 46 rfl) ?_
 refine lw_sld X hH hX hbl hbA g2.1 g2.2 (dk DL_law_9 47 rfl) ?_
 refine lv_i2l X.x X.b (dk DL_law_9 48 rfl) rfl ?_
 refine lv_ldc2 (v := 4294967295) X.x X.b X.ow (X.ts _ kK_L_149) (dk DL_law_9 49 rfl) ?_
 refine lv_land X.x X.b (dk DL_law_9 50 rfl) ?_
 refine lv_lor X.x X.b (dk DL_law_9 51 rfl) ?_
 refine lv_aload_n X.x X.b (dk DL_law_9 52 rfl) rfl (lv_at hl 0 rfl) ?_
 refine lv_iload X.x X.b (dk DL_law_9 53 rfl) (lv_at hl 4 rfl) ?_
 refine lv_iconst (v := 3) X.x X.b (dk DL_law_9 54 rfl) (by decide) ?_
 refine lv_iadd X.x X.b (dk DL_law_9 55 rfl) ?_
 refine lw_sld X hH hX hbl hbA g3.1 g3.2 (dk DL_law_9 56 rfl) ?_
 refine lv_aload_n X.x X.b (dk DL_law_9 57 rfl) rfl (lv_at hl 3 rfl) ?_
 obtain ⟨Pm, hC, hP⟩ := hAg mm (((((A1 : Int32).toInt64 : Int64)) <<< ((32 : Int32).toInt64 &&& 63)) ||| (((A2 : Int32).toInt64) &&& 4294967295)) A3 hJ
 refine mr_xi hH (mr_hrunS (As := [.ref a, .long (((((A1 : Int32).toInt64 : Int64)) <<< ((32 : Int32).toInt64 &&& 63)) ||| (((A2 : Int32).toInt64) &&& 4294967295)), .int A3, .ref ao]) (rest := []) X hH hC kM_L_177 kT_L_meets kN_L kW_L_meets hd_L_meets ⟨Nat.le_of_ble_eq_true rfl, Nat.le_of_ble_eq_true rfl⟩ rfl hl.1 (Nat.le_of_ble_eq_true rfl) (dk DL_law_9 58 rfl) ⟨room_le1 (a := rm_L_meets.cells) (x := 2) (K := 601024) rfl (by omega), room_le1 (a := rm_L_meets.slots) (x := 12) (K := 7293034) rfl (by omega)⟩) (fun E h1 q9 H locs hp hH hth => hp.elim) (fun r h1 H locs hp hH => ?_)
 obtain ⟨q, st, x, bv, fo, hqb, hq, hm, hF, hx2, hfo, hv, hJ2⟩ := hP r h1 hp
 refine W.widen (k := cells + 161) (n := slots + 7887) (room_le1 (a := rm_L_meets.cells) (x := 2) rfl (by omega)) (room_le1 (a := rm_L_meets.slots) (x := 12) rfl (by omega)) ?_
 subst hqb
 have hR := c_X12_meets (l := l) (G := G) (h := h1) hq hF
 rw [hm] at hR
 have hroot := (oset_at (G := G) (st := st) (h := h1) hq (Nat.le_refl _) ohas_N).trans (congrArg some ocell_N)
 rw [hm] at hroot
 have hroot2 := (oset_at (G := G) (st := x) (h := h1) hq (Nat.le_refl _) ohas_N).trans (congrArg some ocell_N)
 refine lv_istore (lv' := [(5, .int r), (0, .ref bS), (1, .ref a), (2, .ref (q 53)), (3, .ref ao), (4, .int x4)]) X.x X.b (dk DL_law_9 59 rfl) hl (by decide) rfl (fun ls hl => ?_)
 replace hl : lv_has ls 8 [(0, .ref bS), (1, .ref a), (2, .ref (q 53)), (3, .ref ao), (4, .int x4), (5, .int r)] := lv_sub hl [1, 2, 3, 4, 5, 0] rfl
 refine lv_aload_n X.x X.b (dk DL_law_10 0 rfl) rfl (lv_at hl 2 rfl) ?_
 refine lv_aload_n X.x X.b (dk DL_law_10 1 rfl) rfl (lv_at hl 0 rfl) ?_
 refine lv_iload X.x X.b (dk DL_law_10 2 rfl) (lv_at hl 4 rfl) ?_
 refine lv_iconst (v := 1) X.x X.b (dk DL_law_10 3 rfl) (by decide) ?_
 refine lv_iadd X.x X.b (dk DL_law_10 4 rfl) ?_
 refine lw_sld X hH hX hbl hbA g1.1 g1.2 (dk DL_law_10 5 rfl) ?_
 refine lv_i2l X.x X.b (dk DL_law_10 6 rfl) rfl ?_
 refine lv_bipush (v := 32) X.x X.b (dk DL_law_10 7 rfl) (by decide) ?_
 refine lv_lshl X.x X.b (dk DL_law_10 8 rfl) rfl ?_
 refine lv_aload_n X.x X.b (dk DL_law_10 9 rfl) rfl (lv_at hl 0 rfl) ?_
 refine lv_iload X.x X.b (dk DL_law_10 10 rfl) (lv_at hl 4 rfl) ?_
 refine lv_iconst (v := 2) X.x X.b (dk DL_law_10 11 rfl) (by decide) ?_
 refine lv_iadd X.x X.b (dk DL_law_10 12 rfl) ?_
 refine lw_sld X hH hX hbl hbA g2.1 g2.2 (dk DL_law_10 13 rfl) ?_
 refine lv_i2l X.x X.b (dk DL_law_10 14 rfl) rfl ?_
 refine lv_ldc2 (v := 4294967295) X.x X.b X.ow (X.ts _ kK_L_149) (dk DL_law_10 15 rfl) ?_
 refine lv_land X.x X.b (dk DL_law_10 16 rfl) ?_
 refine lv_lor X.x X.b (dk DL_law_10 17 rfl) ?_
 refine lv_aload_n X.x X.b (dk DL_law_10 18 rfl) rfl (lv_at hl 0 rfl) ?_
 refine lv_iload X.x X.b (dk DL_law_10 19 rfl) (lv_at hl 4 rfl) ?_
 refine lv_iconst (v := 3) X.x X.b (dk DL_law_10 20 rfl) (by decide) ?_
 refine lv_iadd X.x X.b (dk DL_law_10 21 rfl) ?_
 refine lw_sld X hH hX hbl hbA g3.1 g3.2 (dk DL_law_10 22 rfl) ?_
 refine mr_ci0 hH ⟨rfl, rfl⟩ (mr_runV (As := [.long (((((A1 : Int32).toInt64 : Int64)) <<< ((32 : Int32).toInt64 &&& 63)) ||| (((A2 : Int32).toInt64) &&& 4294967295)), .int A3]) (rest := []) X hH hR hroot OX12.1 kM_L_180 kI_X12_meets kS_X12_meets kN_X12 kC_X12_meets hd_X12_meets ⟨Nat.le_of_ble_eq_true rfl, Nat.le_of_ble_eq_true rfl⟩ rfl hl.1 (Nat.le_of_ble_eq_true rfl) (dk DL_law_10 23 rfl) ⟨room_le3 (c := cells + 161) (b := rm_X12_meets.cells) (K := 601024) rfl hc, room_le3 (c := slots + 7887) (b := rm_X12_meets.slots) (K := 7293034) rfl hs⟩) (fun r2 h2 H locs hp2 hH => ?_)
 replace hp2 : r2 = bv ∧ h2 = oset LX12 G q x h1 := hp2
 obtain ⟨e1, e2⟩ := hp2
 subst e2
 refine lv_istore (lv' := [(6, .int r2), (0, .ref bS), (1, .ref a), (2, .ref (q 53)), (3, .ref ao), (4, .int x4), (5, .int r)]) X.x X.b (dk DL_law_10 24 rfl) hl (by decide) rfl (fun ls hl => ?_)
 replace hl : lv_has ls 8 [(0, .ref bS), (1, .ref a), (2, .ref (q 53)), (3, .ref ao), (4, .int x4), (5, .int r), (6, .int r2)] := lv_sub hl [1, 2, 3, 4, 5, 6, 0] rfl
 refine lv_aload_n X.x X.b (dk DL_law_10 25 rfl) rfl (lv_at hl 2 rfl) ?_
 refine mr_ci0 hH ⟨rfl, rfl⟩ (mr_runV (As := []) (rest := []) X hH (c_X12_thrown (l := l) (G := G) (h := h1) hq (st := x) (x := x.1 2) rfl) hroot2 OX12.1 kM_L_128 kI_X12_thrown kS_X12_thrown kN_X12 kC_X12_thrown hd_X12_thrown ⟨Nat.le_of_ble_eq_true rfl, Nat.le_of_ble_eq_true rfl⟩ rfl hl.1 (Nat.le_of_ble_eq_true rfl) (dk DL_law_10 26 rfl) ⟨room_le3 (c := cells + 161) (b := rm_X12_thrown.cells) (K := 601024) rfl hc, room_le3 (c := slots + 7887) (b := rm_X12_thrown.slots) (K := 7293034) rfl hs⟩) (fun r3 h3 H locs hp3 hH => ?_)
 obtain ⟨e3, e4⟩ := hp3
 subst e4
 refine lv_iload X.x X.b (dk DL_law_10 27 rfl) (lv_at hl 5 rfl) ?_
 refine lv_icmp_eq (tgt := 1165) X.x X.b (dk DL_law_10 28 rfl) (by decide) (fun _ => ?_) (fun z => absurd (e3.trans hx2) z)
 refine lv_iload X.x X.b (dk DL_law_10 31 rfl) (lv_at hl 5 rfl) ?_
 refine lv_if_ne (tgt := 1182) X.x X.b (dk DL_law_10 32 rfl) (by decide) (fun c0 => ?_) (fun c0 => ?_)
 · refine lv_goto (tgt := 2497) X.x X.b (dk DL_law_10 42 rfl) (by decide) ?_
   exact kk _ _ _ _ hJ2 hH (lv_sub hl [0, 1, 2, 3, 4] rfl)
 · refine lv_aload_n X.x X.b (dk DL_law_10 33 rfl) rfl (lv_at hl 3 rfl) ?_
   refine lv_iconst (v := 0) X.x X.b (dk DL_law_10 34 rfl) (by decide) ?_
   have hr0 : r = 0 := by first | exact c0 | exact Decidable.not_not.mp c0
   refine mr_lald X hH hfo (show vp_in (nI 0) 1 from vp_in_nI (by decide) (by decide)) (dk DL_law_10 35 rfl) ?_
   rw [show ((0 : Int32).toNatClampNeg) = 0 from rfl]
   refine lv_iload X.x X.b (dk DL_law_10 36 rfl) (lv_at hl 6 rfl) ?_
   refine lv_i2l X.x X.b (dk DL_law_10 37 rfl) rfl ?_
   refine W.lcmp X.x X.b (dk DL_law_10 38 rfl) ?_
   refine lv_if_eq (tgt := 1182) X.x X.b (dk DL_law_10 39 rfl) (by decide) (fun _ => ?_) (fun z => absurd ((lg_cmp_eq _ _).mpr ((hv hr0).trans (by rw [e1]))) z)
   refine lv_goto (tgt := 2497) X.x X.b (dk DL_law_10 42 rfl) (by decide) ?_
   exact kk _ _ _ _ hJ2 hH (lv_sub hl [0, 1, 2, 3, 4] rfl)
set_option maxHeartbeats 4000000 in
set_option maxRecDepth 100000 in
theorem lc_even {p : Program} {l : Launch} {e : Env} {s : State} {m : MethodId} {args : Array Value} {below : List Frame} {meth : Method} {c : Code} {G : mG} {L : Nat} {xs : Nat → Int32} {bS a b ao : Nat} (X : mX G p m c code 8 s args RL) (hX : va_X bS L xs s s.heap) (hbl : bS < s.heap.size) (hbA : ¬ mA G bS) {J : mM → Prop} (hJa : ∀ m, J m → ∃ fs, m a = some (.inr (LX11.1, fs))) (hAg : Ag_even l G J a b ao) {x4 A1 A2 A3 A4 A5 : Int32} (g1 : vp_in (x4 + 1) L ∧ xs (x4 + 1).toNatClampNeg = A1) (g2 : vp_in (x4 + 2) L ∧ xs (x4 + 2).toNatClampNeg = A2) (g3 : vp_in (x4 + 3) L ∧ xs (x4 + 3).toNatClampNeg = A3) (g4 : vp_in (x4 + 4) L ∧ xs (x4 + 4).toNatClampNeg = A4) (g5 : vp_in (x4 + 5) L ∧ xs (x4 + 5).toNatClampNeg = A5) {mm : mM} {H : Heap} {locs : List Loc} {ls : Array Slot} (hJ : J mm) (hH : mH G mm s.heap H locs) (hl : lv_has ls 8 [(0, .ref bS), (1, .ref a), (2, .ref b), (3, .ref ao), (4, .int x4)]) {cells slots : Nat} (hc : cells + 161 ≤ 601024) (hs : slots + 7887 ≤ 7293034) {Q : State → Prop}
    (kk : ∀ (mm : mM) (H : Heap) (locs : List Loc) (ls : Array Slot), J mm → mH G mm s.heap H locs → lv_has ls 8 [(0, .ref bS), (1, .ref a), (2, .ref b), (3, .ref ao), (4, .int x4)] → W p l e room_1 s m args below meth c H locs (cells + 161) (slots + 7887) Q (F0 m 2497 ls [])) :
    W p l e room_1 s m args below meth c H locs cells slots Q (F0 m 1185 ls []) := by
 refine lv_aload_n X.x X.b (dk DL_law_10 43 rfl) rfl (lv_at hl 1 rfl) ?_
 refine lv_aload_n X.x X.b (dk DL_law_10 44 rfl) rfl (lv_at hl 0 rfl) ?_
 refine lv_iload X.x X.b (dk DL_law_10 45 rfl) (lv_at hl 4 rfl) ?_
 refine lv_iconst (v := 1) X.x X.b (dk DL_law_10 46 rfl) (by decide) ?_
 refine lv_iadd X.x X.b (dk DL_law_10 47 rfl) ?_
 refine lw_sld X hH hX hbl hbA g1.1 g1.2 (dk DL_law_10 48 rfl) ?_
 refine lv_i2l X.x X.b (dk DL_law_10 49 rfl) rfl ?_
 refine lv_bipush (v := 32) X.x X.b (dk DL_law_10 50 rfl) (by decide) ?_
 refine lv_lshl X.x X.b (dk DL_law_10 51 rfl) rfl ?_
 refine lv_aload_n X.x X.b (dk DL_law_10 52 rfl) rfl (lv_at hl 0 rfl) ?_
 refine lv_iload X.x X.b (dk DL_law_10 53 rfl) (lv_at hl 4 rfl) ?_
 refine lv_iconst (v := 2) X.x X.b (dk DL_law_10 54 rfl) (by decide) ?_
 refine lv_iadd X.x X.b (dk DL_law_10 55 rfl) ?_
 refine lw_sld X hH hX hbl hbA g2.1 g2.2 (dk DL_law_10 56 rfl) ?_
 refine lv_i2l X.x X.b (dk DL_law_10 57 rfl) rfl ?_
 refine lv_ldc2 (v := 4294967295) X.x X.b X.ow (X.ts _ kK_L_149) (dk DL_law_10 58 rfl) ?_
 refine lv_land X.x X.b (dk DL_law_10 59 rfl) ?_
 refine lv_lor X.x X.b (dk DL_law_11 0 rfl) ?_
 refine lv_aload_n X.x X.b (dk DL_law_11 1 rfl) rfl (lv_at hl 3 rfl) ?_
 obtain ⟨Pm, hC, hP⟩ := hAg mm (((((A1 : Int32).toInt64 : Int64)) <<< ((32 : Int32).toInt64 &&& 63)) ||| (((A2 : Int32).toInt64) &&& 4294967295)) hJ
 refine mr_xi hH (mr_hrunS (As := [.ref a, .long (((((A1 : Int32).toInt64 : Int64)) <<< ((32 : Int32).toInt64 &&& 63)) ||| (((A2 : Int32).toInt64) &&& 4294967295)), .ref ao]) (rest := []) X hH hC kM_L_181 kT_L_even kN_L kW_L_even hd_L_even ⟨Nat.le_of_ble_eq_true rfl, Nat.le_of_ble_eq_true rfl⟩ rfl hl.1 (Nat.le_of_ble_eq_true rfl) (dk DL_law_11 2 rfl) ⟨room_le1 (a := rm_L_even.cells) (x := 1) (K := 601024) rfl (by omega), room_le1 (a := rm_L_even.slots) (x := 6) (K := 7293034) rfl (by omega)⟩) (fun E h1 q9 H locs hp hH hth => hp.elim) (fun r h1 H locs hp hH => ?_)
 obtain ⟨q, st, x, bv, fo, hqb, hq, hm, hF, hx2, hfo, hv, hJ2⟩ := hP r h1 hp
 refine W.widen (k := cells + 161) (n := slots + 7887) (room_le1 (a := rm_L_even.cells) (x := 1) rfl (by omega)) (room_le1 (a := rm_L_even.slots) (x := 6) rfl (by omega)) ?_
 subst hqb
 have hR := c_X12_even (l := l) (G := G) (h := h1) hq hF
 rw [hm] at hR
 have hroot := (oset_at (G := G) (st := st) (h := h1) hq (Nat.le_refl _) ohas_N).trans (congrArg some ocell_N)
 rw [hm] at hroot
 have hroot2 := (oset_at (G := G) (st := x) (h := h1) hq (Nat.le_refl _) ohas_N).trans (congrArg some ocell_N)
 refine lv_istore (lv' := [(5, .int r), (0, .ref bS), (1, .ref a), (2, .ref (q 53)), (3, .ref ao), (4, .int x4)]) X.x X.b (dk DL_law_11 3 rfl) hl (by decide) rfl (fun ls hl => ?_)
 replace hl : lv_has ls 8 [(0, .ref bS), (1, .ref a), (2, .ref (q 53)), (3, .ref ao), (4, .int x4), (5, .int r)] := lv_sub hl [1, 2, 3, 4, 5, 0] rfl
 refine lv_aload_n X.x X.b (dk DL_law_11 4 rfl) rfl (lv_at hl 2 rfl) ?_
 refine lv_aload_n X.x X.b (dk DL_law_11 5 rfl) rfl (lv_at hl 0 rfl) ?_
 refine lv_iload X.x X.b (dk DL_law_11 6 rfl) (lv_at hl 4 rfl) ?_
 refine lv_iconst (v := 1) X.x X.b (dk DL_law_11 7 rfl) (by decide) ?_
 refine lv_iadd X.x X.b (dk DL_law_11 8 rfl) ?_
 refine lw_sld X hH hX hbl hbA g1.1 g1.2 (dk DL_law_11 9 rfl) ?_
 refine lv_i2l X.x X.b (dk DL_law_11 10 rfl) rfl ?_
 refine lv_bipush (v := 32) X.x X.b (dk DL_law_11 11 rfl) (by decide) ?_
 refine lv_lshl X.x X.b (dk DL_law_11 12 rfl) rfl ?_
 refine lv_aload_n X.x X.b (dk DL_law_11 13 rfl) rfl (lv_at hl 0 rfl) ?_
 refine lv_iload X.x X.b (dk DL_law_11 14 rfl) (lv_at hl 4 rfl) ?_
 refine lv_iconst (v := 2) X.x X.b (dk DL_law_11 15 rfl) (by decide) ?_
 refine lv_iadd X.x X.b (dk DL_law_11 16 rfl) ?_
 refine lw_sld X hH hX hbl hbA g2.1 g2.2 (dk DL_law_11 17 rfl) ?_
 refine lv_i2l X.x X.b (dk DL_law_11 18 rfl) rfl ?_
 refine lv_ldc2 (v := 4294967295) X.x X.b X.ow (X.ts _ kK_L_149) (dk DL_law_11 19 rfl) ?_
 refine lv_land X.x X.b (dk DL_law_11 20 rfl) ?_
 refine lv_lor X.x X.b (dk DL_law_11 21 rfl) ?_
 refine mr_ci0 hH ⟨rfl, rfl⟩ (mr_runV (As := [.long (((((A1 : Int32).toInt64 : Int64)) <<< ((32 : Int32).toInt64 &&& 63)) ||| (((A2 : Int32).toInt64) &&& 4294967295))]) (rest := []) X hH hR hroot OX12.1 kM_L_183 kI_X12_even kS_X12_even kN_X12 kC_X12_even hd_X12_even ⟨Nat.le_of_ble_eq_true rfl, Nat.le_of_ble_eq_true rfl⟩ rfl hl.1 (Nat.le_of_ble_eq_true rfl) (dk DL_law_11 22 rfl) ⟨room_le3 (c := cells + 161) (b := rm_X12_even.cells) (K := 601024) rfl hc, room_le3 (c := slots + 7887) (b := rm_X12_even.slots) (K := 7293034) rfl hs⟩) (fun r2 h2 H locs hp2 hH => ?_)
 replace hp2 : r2 = bv ∧ h2 = oset LX12 G q x h1 := hp2
 obtain ⟨e1, e2⟩ := hp2
 subst e2
 refine lv_istore (lv' := [(6, .int r2), (0, .ref bS), (1, .ref a), (2, .ref (q 53)), (3, .ref ao), (4, .int x4), (5, .int r)]) X.x X.b (dk DL_law_11 23 rfl) hl (by decide) rfl (fun ls hl => ?_)
 replace hl : lv_has ls 8 [(0, .ref bS), (1, .ref a), (2, .ref (q 53)), (3, .ref ao), (4, .int x4), (5, .int r), (6, .int r2)] := lv_sub hl [1, 2, 3, 4, 5, 6, 0] rfl
 refine lv_aload_n X.x X.b (dk DL_law_11 24 rfl) rfl (lv_at hl 2 rfl) ?_
 refine mr_ci0 hH ⟨rfl, rfl⟩ (mr_runV (As := []) (rest := []) X hH (c_X12_thrown (l := l) (G := G) (h := h1) hq (st := x) (x := x.1 2) rfl) hroot2 OX12.1 kM_L_128 kI_X12_thrown kS_X12_thrown kN_X12 kC_X12_thrown hd_X12_thrown ⟨Nat.le_of_ble_eq_true rfl, Nat.le_of_ble_eq_true rfl⟩ rfl hl.1 (Nat.le_of_ble_eq_true rfl) (dk DL_law_11 25 rfl) ⟨room_le3 (c := cells + 161) (b := rm_X12_thrown.cells) (K := 601024) rfl hc, room_le3 (c := slots + 7887) (b := rm_X12_thrown.slots) (K := 7293034) rfl hs⟩) (fun r3 h3 H locs hp3 hH => ?_)
 obtain ⟨e3, e4⟩ := hp3
 subst e4
 refine lv_iload X.x X.b (dk DL_law_11 26 rfl) (lv_at hl 5 rfl) ?_
 refine lv_icmp_eq (tgt := 1253) X.x X.b (dk DL_law_11 27 rfl) (by decide) (fun _ => ?_) (fun z => absurd (e3.trans hx2) z)
 refine lv_iload X.x X.b (dk DL_law_11 30 rfl) (lv_at hl 5 rfl) ?_
 refine lv_if_ne (tgt := 1270) X.x X.b (dk DL_law_11 31 rfl) (by decide) (fun c0 => ?_) (fun c0 => ?_)
 · refine lv_goto (tgt := 2497) X.x X.b (dk DL_law_11 41 rfl) (by decide) ?_
   exact kk _ _ _ _ hJ2 hH (lv_sub hl [0, 1, 2, 3, 4] rfl)
 · refine lv_aload_n X.x X.b (dk DL_law_11 32 rfl) rfl (lv_at hl 3 rfl) ?_
   refine lv_iconst (v := 0) X.x X.b (dk DL_law_11 33 rfl) (by decide) ?_
   have hr0 : r = 0 := by first | exact c0 | exact Decidable.not_not.mp c0
   refine mr_lald X hH hfo (show vp_in (nI 0) 1 from vp_in_nI (by decide) (by decide)) (dk DL_law_11 34 rfl) ?_
   rw [show ((0 : Int32).toNatClampNeg) = 0 from rfl]
   refine lv_iload X.x X.b (dk DL_law_11 35 rfl) (lv_at hl 6 rfl) ?_
   refine lv_i2l X.x X.b (dk DL_law_11 36 rfl) rfl ?_
   refine W.lcmp X.x X.b (dk DL_law_11 37 rfl) ?_
   refine lv_if_eq (tgt := 1270) X.x X.b (dk DL_law_11 38 rfl) (by decide) (fun _ => ?_) (fun z => absurd ((lg_cmp_eq _ _).mpr ((hv hr0).trans (by rw [e1]))) z)
   refine lv_goto (tgt := 2497) X.x X.b (dk DL_law_11 41 rfl) (by decide) ?_
   exact kk _ _ _ _ hJ2 hH (lv_sub hl [0, 1, 2, 3, 4] rfl)
set_option maxHeartbeats 4000000 in
set_option maxRecDepth 100000 in
theorem lc_evens {p : Program} {l : Launch} {e : Env} {s : State} {m : MethodId} {args : Array Value} {below : List Frame} {meth : Method} {c : Code} {G : mG} {L : Nat} {xs : Nat → Int32} {bS a b ao : Nat} (X : mX G p m c code 8 s args RL) (hX : va_X bS L xs s s.heap) (hbl : bS < s.heap.size) (hbA : ¬ mA G bS) {J : mM → Prop} (hJa : ∀ m, J m → ∃ fs, m a = some (.inr (LX11.1, fs))) (hAg : Ag_evens l G J a b ao) {x4 A1 A2 A3 A4 A5 : Int32} (g1 : vp_in (x4 + 1) L ∧ xs (x4 + 1).toNatClampNeg = A1) (g2 : vp_in (x4 + 2) L ∧ xs (x4 + 2).toNatClampNeg = A2) (g3 : vp_in (x4 + 3) L ∧ xs (x4 + 3).toNatClampNeg = A3) (g4 : vp_in (x4 + 4) L ∧ xs (x4 + 4).toNatClampNeg = A4) (g5 : vp_in (x4 + 5) L ∧ xs (x4 + 5).toNatClampNeg = A5) {mm : mM} {H : Heap} {locs : List Loc} {ls : Array Slot} (hJ : J mm) (hH : mH G mm s.heap H locs) (hl : lv_has ls 8 [(0, .ref bS), (1, .ref a), (2, .ref b), (3, .ref ao), (4, .int x4)]) {cells slots : Nat} (hc : cells + 161 ≤ 601024) (hs : slots + 7887 ≤ 7293034) {Q : State → Prop}
    (kk : ∀ (mm : mM) (H : Heap) (locs : List Loc) (ls : Array Slot), J mm → mH G mm s.heap H locs → lv_has ls 8 [(0, .ref bS), (1, .ref a), (2, .ref b), (3, .ref ao), (4, .int x4)] → W p l e room_1 s m args below meth c H locs (cells + 161) (slots + 7887) Q (F0 m 2497 ls [])) :
    W p l e room_1 s m args below meth c H locs cells slots Q (F0 m 1273 ls []) := by
 refine lv_aload_n X.x X.b (dk DL_law_11 42 rfl) rfl (lv_at hl 1 rfl) ?_
 refine lv_aload_n X.x X.b (dk DL_law_11 43 rfl) rfl (lv_at hl 0 rfl) ?_
 refine lv_iload X.x X.b (dk DL_law_11 44 rfl) (lv_at hl 4 rfl) ?_
 refine lv_iconst (v := 1) X.x X.b (dk DL_law_11 45 rfl) (by decide) ?_
 refine lv_iadd X.x X.b (dk DL_law_11 46 rfl) ?_
 refine lw_sld X hH hX hbl hbA g1.1 g1.2 (dk DL_law_11 47 rfl) ?_
 obtain ⟨Pm, hC, hP⟩ := hAg mm A1 hJ
 obtain ⟨fs, ha⟩ := hJa mm hJ
 refine mr_ci hH (mr_runV (As := [.int A1]) (rest := []) X hH hC ha OX11.1 kM_L_184 kI_X11_evens kS_X11_evens kN_X11 kC_X11_evens hd_X11_evens ⟨Nat.le_of_ble_eq_true rfl, Nat.le_of_ble_eq_true rfl⟩ rfl hl.1 (Nat.le_of_ble_eq_true rfl) (dk DL_law_11 48 rfl) ⟨room_le1 (a := rm_X11_evens.cells) (x := 0) (K := 601024) rfl (by omega), room_le1 (a := rm_X11_evens.slots) (x := 0) (K := 7293034) rfl (by omega)⟩) (fun r h1 H locs hp hH => ?_)
 obtain ⟨q, st, x, hqb, hq, hm, hF, hJ2⟩ := hP r h1 hp
 refine W.widen (k := cells + 161) (n := slots + 7887) (room_le1 (a := rm_X11_evens.cells) (x := 0) rfl (by omega)) (room_le1 (a := rm_X11_evens.slots) (x := 0) rfl (by omega)) ?_
 subst hqb
 have hR := c_X12_evens (l := l) (G := G) (h := h1) hq hF
 rw [hm] at hR
 have hroot := (oset_at (G := G) (st := st) (h := h1) hq (Nat.le_refl _) ohas_N).trans (congrArg some ocell_N)
 rw [hm] at hroot
 have hroot2 := (oset_at (G := G) (st := x) (h := h1) hq (Nat.le_refl _) ohas_N).trans (congrArg some ocell_N)
 refine lv_aload_n X.x X.b (dk DL_law_11 49 rfl) rfl (lv_at hl 2 rfl) ?_
 refine lv_aload_n X.x X.b (dk DL_law_11 50 rfl) rfl (lv_at hl 0 rfl) ?_
 refine lv_iload X.x X.b (dk DL_law_11 51 rfl) (lv_at hl 4 rfl) ?_
 refine lv_iconst (v := 1) X.x X.b (dk DL_law_11 52 rfl) (by decide) ?_
 refine lv_iadd X.x X.b (dk DL_law_11 53 rfl) ?_
 refine lw_sld X hH hX hbl hbA g1.1 g1.2 (dk DL_law_11 54 rfl) ?_
 refine mr_ci0 hH ⟨rfl, rfl⟩ (mr_runV (As := [.int A1]) (rest := [.int r]) X hH hR hroot OX12.1 kM_L_187 kI_X12_evens kS_X12_evens kN_X12 kC_X12_evens hd_X12_evens ⟨Nat.le_of_ble_eq_true rfl, Nat.le_of_ble_eq_true rfl⟩ rfl hl.1 (Nat.le_of_ble_eq_true rfl) (dk DL_law_11 55 rfl) ⟨room_le3 (c := cells + 161) (b := rm_X12_evens.cells) (K := 601024) rfl hc, room_le3 (c := slots + 7887) (b := rm_X12_evens.slots) (K := 7293034) rfl hs⟩) (fun r2 h2 H locs hp2 hH => ?_)
 replace hp2 : r2 = r ∧ h2 = oset LX12 G q x h1 := hp2
 obtain ⟨e1, e2⟩ := hp2
 subst e2
 refine lv_icmp_eq (tgt := 2497) X.x X.b (dk DL_law_11 56 rfl) (by decide) (fun _ => ?_) (fun z => absurd e1.symm z)
 exact kk _ _ _ _ hJ2 hH (lv_sub hl [0, 1, 2, 3, 4] rfl)
set_option maxHeartbeats 4000000 in
set_option maxRecDepth 100000 in
theorem lc_tight {p : Program} {l : Launch} {e : Env} {s : State} {m : MethodId} {args : Array Value} {below : List Frame} {meth : Method} {c : Code} {G : mG} {L : Nat} {xs : Nat → Int32} {bS a b ao : Nat} (X : mX G p m c code 8 s args RL) (hX : va_X bS L xs s s.heap) (hbl : bS < s.heap.size) (hbA : ¬ mA G bS) {J : mM → Prop} (hJa : ∀ m, J m → ∃ fs, m a = some (.inr (LX11.1, fs))) (hAg : Ag_tight l G J a b ao) {x4 A1 A2 A3 A4 A5 : Int32} (g1 : vp_in (x4 + 1) L ∧ xs (x4 + 1).toNatClampNeg = A1) (g2 : vp_in (x4 + 2) L ∧ xs (x4 + 2).toNatClampNeg = A2) (g3 : vp_in (x4 + 3) L ∧ xs (x4 + 3).toNatClampNeg = A3) (g4 : vp_in (x4 + 4) L ∧ xs (x4 + 4).toNatClampNeg = A4) (g5 : vp_in (x4 + 5) L ∧ xs (x4 + 5).toNatClampNeg = A5) {mm : mM} {H : Heap} {locs : List Loc} {ls : Array Slot} (hJ : J mm) (hH : mH G mm s.heap H locs) (hl : lv_has ls 8 [(0, .ref bS), (1, .ref a), (2, .ref b), (3, .ref ao), (4, .int x4)]) {cells slots : Nat} (hc : cells + 161 ≤ 601024) (hs : slots + 7887 ≤ 7293034) {Q : State → Prop}
    (kk : ∀ (mm : mM) (H : Heap) (locs : List Loc) (ls : Array Slot), J mm → mH G mm s.heap H locs → lv_has ls 8 [(0, .ref bS), (1, .ref a), (2, .ref b), (3, .ref ao), (4, .int x4)] → W p l e room_1 s m args below meth c H locs (cells + 161) (slots + 7887) Q (F0 m 2497 ls [])) :
    W p l e room_1 s m args below meth c H locs cells slots Q (F0 m 1298 ls []) := by
 refine lv_aload_n X.x X.b (dk DL_law_11 59 rfl) rfl (lv_at hl 1 rfl) ?_
 refine lv_aload_n X.x X.b (dk DL_law_12 0 rfl) rfl (lv_at hl 0 rfl) ?_
 refine lv_iload X.x X.b (dk DL_law_12 1 rfl) (lv_at hl 4 rfl) ?_
 refine lv_iconst (v := 1) X.x X.b (dk DL_law_12 2 rfl) (by decide) ?_
 refine lv_iadd X.x X.b (dk DL_law_12 3 rfl) ?_
 refine lw_sld X hH hX hbl hbA g1.1 g1.2 (dk DL_law_12 4 rfl) ?_
 refine lv_i2l X.x X.b (dk DL_law_12 5 rfl) rfl ?_
 refine lv_bipush (v := 32) X.x X.b (dk DL_law_12 6 rfl) (by decide) ?_
 refine lv_lshl X.x X.b (dk DL_law_12 7 rfl) rfl ?_
 refine lv_aload_n X.x X.b (dk DL_law_12 8 rfl) rfl (lv_at hl 0 rfl) ?_
 refine lv_iload X.x X.b (dk DL_law_12 9 rfl) (lv_at hl 4 rfl) ?_
 refine lv_iconst (v := 2) X.x X.b (dk DL_law_12 10 rfl) (by decide) ?_
 refine lv_iadd X.x X.b (dk DL_law_12 11 rfl) ?_
 refine lw_sld X hH hX hbl hbA g2.1 g2.2 (dk DL_law_12 12 rfl) ?_
 refine lv_i2l X.x X.b (dk DL_law_12 13 rfl) rfl ?_
 refine lv_ldc2 (v := 4294967295) X.x X.b X.ow (X.ts _ kK_L_149) (dk DL_law_12 14 rfl) ?_
 refine lv_land X.x X.b (dk DL_law_12 15 rfl) ?_
 refine lv_lor X.x X.b (dk DL_law_12 16 rfl) ?_
 refine lv_aload_n X.x X.b (dk DL_law_12 17 rfl) rfl (lv_at hl 3 rfl) ?_
 obtain ⟨Pm, hC, hP⟩ := hAg mm (((((A1 : Int32).toInt64 : Int64)) <<< ((32 : Int32).toInt64 &&& 63)) ||| (((A2 : Int32).toInt64) &&& 4294967295)) hJ
 refine mr_xi hH (mr_hrunS (As := [.ref a, .long (((((A1 : Int32).toInt64 : Int64)) <<< ((32 : Int32).toInt64 &&& 63)) ||| (((A2 : Int32).toInt64) &&& 4294967295)), .ref ao]) (rest := []) X hH hC kM_L_188 kT_L_tight kN_L kW_L_tight hd_L_tight ⟨Nat.le_of_ble_eq_true rfl, Nat.le_of_ble_eq_true rfl⟩ rfl hl.1 (Nat.le_of_ble_eq_true rfl) (dk DL_law_12 18 rfl) ⟨room_le1 (a := rm_L_tight.cells) (x := 1) (K := 601024) rfl (by omega), room_le1 (a := rm_L_tight.slots) (x := 6) (K := 7293034) rfl (by omega)⟩) (fun E h1 q9 H locs hp hH hth => hp.elim) (fun r h1 H locs hp hH => ?_)
 obtain ⟨q, st, x, bv, fo, hqb, hq, hm, hF, hx2, hfo, hv, hJ2⟩ := hP r h1 hp
 refine W.widen (k := cells + 161) (n := slots + 7887) (room_le1 (a := rm_L_tight.cells) (x := 1) rfl (by omega)) (room_le1 (a := rm_L_tight.slots) (x := 6) rfl (by omega)) ?_
 subst hqb
 have hR := c_X12_tight (l := l) (G := G) (h := h1) hq hF
 rw [hm] at hR
 have hroot := (oset_at (G := G) (st := st) (h := h1) hq (Nat.le_refl _) ohas_N).trans (congrArg some ocell_N)
 rw [hm] at hroot
 have hroot2 := (oset_at (G := G) (st := x) (h := h1) hq (Nat.le_refl _) ohas_N).trans (congrArg some ocell_N)
 refine lv_istore (lv' := [(5, .int r), (0, .ref bS), (1, .ref a), (2, .ref (q 53)), (3, .ref ao), (4, .int x4)]) X.x X.b (dk DL_law_12 19 rfl) hl (by decide) rfl (fun ls hl => ?_)
 replace hl : lv_has ls 8 [(0, .ref bS), (1, .ref a), (2, .ref (q 53)), (3, .ref ao), (4, .int x4), (5, .int r)] := lv_sub hl [1, 2, 3, 4, 5, 0] rfl
 refine lv_aload_n X.x X.b (dk DL_law_12 20 rfl) rfl (lv_at hl 2 rfl) ?_
 refine lv_aload_n X.x X.b (dk DL_law_12 21 rfl) rfl (lv_at hl 0 rfl) ?_
 refine lv_iload X.x X.b (dk DL_law_12 22 rfl) (lv_at hl 4 rfl) ?_
 refine lv_iconst (v := 1) X.x X.b (dk DL_law_12 23 rfl) (by decide) ?_
 refine lv_iadd X.x X.b (dk DL_law_12 24 rfl) ?_
 refine lw_sld X hH hX hbl hbA g1.1 g1.2 (dk DL_law_12 25 rfl) ?_
 refine lv_i2l X.x X.b (dk DL_law_12 26 rfl) rfl ?_
 refine lv_bipush (v := 32) X.x X.b (dk DL_law_12 27 rfl) (by decide) ?_
 refine lv_lshl X.x X.b (dk DL_law_12 28 rfl) rfl ?_
 refine lv_aload_n X.x X.b (dk DL_law_12 29 rfl) rfl (lv_at hl 0 rfl) ?_
 refine lv_iload X.x X.b (dk DL_law_12 30 rfl) (lv_at hl 4 rfl) ?_
 refine lv_iconst (v := 2) X.x X.b (dk DL_law_12 31 rfl) (by decide) ?_
 refine lv_iadd X.x X.b (dk DL_law_12 32 rfl) ?_
 refine lw_sld X hH hX hbl hbA g2.1 g2.2 (dk DL_law_12 33 rfl) ?_
 refine lv_i2l X.x X.b (dk DL_law_12 34 rfl) rfl ?_
 refine lv_ldc2 (v := 4294967295) X.x X.b X.ow (X.ts _ kK_L_149) (dk DL_law_12 35 rfl) ?_
 refine lv_land X.x X.b (dk DL_law_12 36 rfl) ?_
 refine lv_lor X.x X.b (dk DL_law_12 37 rfl) ?_
 refine mr_ci0 hH ⟨rfl, rfl⟩ (mr_runV (As := [.long (((((A1 : Int32).toInt64 : Int64)) <<< ((32 : Int32).toInt64 &&& 63)) ||| (((A2 : Int32).toInt64) &&& 4294967295))]) (rest := []) X hH hR hroot OX12.1 kM_L_190 kI_X12_tight kS_X12_tight kN_X12 kC_X12_tight hd_X12_tight ⟨Nat.le_of_ble_eq_true rfl, Nat.le_of_ble_eq_true rfl⟩ rfl hl.1 (Nat.le_of_ble_eq_true rfl) (dk DL_law_12 38 rfl) ⟨room_le3 (c := cells + 161) (b := rm_X12_tight.cells) (K := 601024) rfl hc, room_le3 (c := slots + 7887) (b := rm_X12_tight.slots) (K := 7293034) rfl hs⟩) (fun r2 h2 H locs hp2 hH => ?_)
 replace hp2 : r2 = bv ∧ h2 = oset LX12 G q x h1 := hp2
 obtain ⟨e1, e2⟩ := hp2
 subst e2
 refine lv_istore (lv' := [(6, .int r2), (0, .ref bS), (1, .ref a), (2, .ref (q 53)), (3, .ref ao), (4, .int x4), (5, .int r)]) X.x X.b (dk DL_law_12 39 rfl) hl (by decide) rfl (fun ls hl => ?_)
 replace hl : lv_has ls 8 [(0, .ref bS), (1, .ref a), (2, .ref (q 53)), (3, .ref ao), (4, .int x4), (5, .int r), (6, .int r2)] := lv_sub hl [1, 2, 3, 4, 5, 6, 0] rfl
 refine lv_aload_n X.x X.b (dk DL_law_12 40 rfl) rfl (lv_at hl 2 rfl) ?_
 refine mr_ci0 hH ⟨rfl, rfl⟩ (mr_runV (As := []) (rest := []) X hH (c_X12_thrown (l := l) (G := G) (h := h1) hq (st := x) (x := x.1 2) rfl) hroot2 OX12.1 kM_L_128 kI_X12_thrown kS_X12_thrown kN_X12 kC_X12_thrown hd_X12_thrown ⟨Nat.le_of_ble_eq_true rfl, Nat.le_of_ble_eq_true rfl⟩ rfl hl.1 (Nat.le_of_ble_eq_true rfl) (dk DL_law_12 41 rfl) ⟨room_le3 (c := cells + 161) (b := rm_X12_thrown.cells) (K := 601024) rfl hc, room_le3 (c := slots + 7887) (b := rm_X12_thrown.slots) (K := 7293034) rfl hs⟩) (fun r3 h3 H locs hp3 hH => ?_)
 obtain ⟨e3, e4⟩ := hp3
 subst e4
 refine lv_iload X.x X.b (dk DL_law_12 42 rfl) (lv_at hl 5 rfl) ?_
 refine lv_icmp_eq (tgt := 1366) X.x X.b (dk DL_law_12 43 rfl) (by decide) (fun _ => ?_) (fun z => absurd (e3.trans hx2) z)
 refine lv_iload X.x X.b (dk DL_law_12 46 rfl) (lv_at hl 5 rfl) ?_
 refine lv_if_ne (tgt := 1383) X.x X.b (dk DL_law_12 47 rfl) (by decide) (fun c0 => ?_) (fun c0 => ?_)
 · refine lv_goto (tgt := 2497) X.x X.b (dk DL_law_12 57 rfl) (by decide) ?_
   exact kk _ _ _ _ hJ2 hH (lv_sub hl [0, 1, 2, 3, 4] rfl)
 · refine lv_aload_n X.x X.b (dk DL_law_12 48 rfl) rfl (lv_at hl 3 rfl) ?_
   refine lv_iconst (v := 0) X.x X.b (dk DL_law_12 49 rfl) (by decide) ?_
   have hr0 : r = 0 := by first | exact c0 | exact Decidable.not_not.mp c0
   refine mr_lald X hH hfo (show vp_in (nI 0) 1 from vp_in_nI (by decide) (by decide)) (dk DL_law_12 50 rfl) ?_
   rw [show ((0 : Int32).toNatClampNeg) = 0 from rfl]
   refine lv_iload X.x X.b (dk DL_law_12 51 rfl) (lv_at hl 6 rfl) ?_
   refine lv_i2l X.x X.b (dk DL_law_12 52 rfl) rfl ?_
   refine W.lcmp X.x X.b (dk DL_law_12 53 rfl) ?_
   refine lv_if_eq (tgt := 1383) X.x X.b (dk DL_law_12 54 rfl) (by decide) (fun _ => ?_) (fun z => absurd ((lg_cmp_eq _ _).mpr ((hv hr0).trans (by rw [e1]))) z)
   refine lv_goto (tgt := 2497) X.x X.b (dk DL_law_12 57 rfl) (by decide) ?_
   exact kk _ _ _ _ hJ2 hH (lv_sub hl [0, 1, 2, 3, 4] rfl)
set_option maxHeartbeats 4000000 in
set_option maxRecDepth 100000 in
theorem lc_ovoid {p : Program} {l : Launch} {e : Env} {s : State} {m : MethodId} {args : Array Value} {below : List Frame} {meth : Method} {c : Code} {G : mG} {L : Nat} {xs : Nat → Int32} {bS a b ao : Nat} (X : mX G p m c code 8 s args RL) (hX : va_X bS L xs s s.heap) (hbl : bS < s.heap.size) (hbA : ¬ mA G bS) {J : mM → Prop} (hJa : ∀ m, J m → ∃ fs, m a = some (.inr (LX11.1, fs))) (hAg : Ag_ovoid l G J a b ao) {x4 A1 A2 A3 A4 A5 : Int32} (g1 : vp_in (x4 + 1) L ∧ xs (x4 + 1).toNatClampNeg = A1) (g2 : vp_in (x4 + 2) L ∧ xs (x4 + 2).toNatClampNeg = A2) (g3 : vp_in (x4 + 3) L ∧ xs (x4 + 3).toNatClampNeg = A3) (g4 : vp_in (x4 + 4) L ∧ xs (x4 + 4).toNatClampNeg = A4) (g5 : vp_in (x4 + 5) L ∧ xs (x4 + 5).toNatClampNeg = A5) {mm : mM} {H : Heap} {locs : List Loc} {ls : Array Slot} (hJ : J mm) (hH : mH G mm s.heap H locs) (hl : lv_has ls 8 [(0, .ref bS), (1, .ref a), (2, .ref b), (3, .ref ao), (4, .int x4)]) {cells slots : Nat} (hc : cells + 161 ≤ 601024) (hs : slots + 7887 ≤ 7293034) {Q : State → Prop}
    (kk : ∀ (mm : mM) (H : Heap) (locs : List Loc) (ls : Array Slot), J mm → mH G mm s.heap H locs → lv_has ls 8 [(0, .ref bS), (1, .ref a), (2, .ref b), (3, .ref ao), (4, .int x4)] → W p l e room_1 s m args below meth c H locs (cells + 161) (slots + 7887) Q (F0 m 2497 ls [])) :
    W p l e room_1 s m args below meth c H locs cells slots Q (F0 m 1386 ls []) := by
 refine lv_aload_n X.x X.b (dk DL_law_12 58 rfl) rfl (lv_at hl 1 rfl) ?_
 obtain ⟨Pm, hC, hP⟩ := hAg mm  hJ
 obtain ⟨fs, ha⟩ := hJa mm hJ
 refine mr_cl hH (mr_runV (As := []) (rest := []) X hH hC ha OX11.1 kM_L_191 kI_X11_ovoid kS_X11_ovoid kN_X11 kC_X11_ovoid hd_X11_ovoid ⟨Nat.le_of_ble_eq_true rfl, Nat.le_of_ble_eq_true rfl⟩ rfl hl.1 (Nat.le_of_ble_eq_true rfl) (dk DL_law_12 59 rfl) ⟨room_le1 (a := rm_X11_ovoid.cells) (x := 0) (K := 601024) rfl (by omega), room_le1 (a := rm_X11_ovoid.slots) (x := 0) (K := 7293034) rfl (by omega)⟩) (fun r h1 H locs hp hH => ?_)
 obtain ⟨q, st, x, hqb, hq, hm, hF, hJ2⟩ := hP r h1 hp
 refine W.widen (k := cells + 161) (n := slots + 7887) (room_le1 (a := rm_X11_ovoid.cells) (x := 0) rfl (by omega)) (room_le1 (a := rm_X11_ovoid.slots) (x := 0) rfl (by omega)) ?_
 subst hqb
 have hR := c_X12_ovoid (l := l) (G := G) (h := h1) hq hF
 rw [hm] at hR
 have hroot := (oset_at (G := G) (st := st) (h := h1) hq (Nat.le_refl _) ohas_N).trans (congrArg some ocell_N)
 rw [hm] at hroot
 have hroot2 := (oset_at (G := G) (st := x) (h := h1) hq (Nat.le_refl _) ohas_N).trans (congrArg some ocell_N)
 refine lv_aload_n X.x X.b (dk DL_law_13 0 rfl) rfl (lv_at hl 2 rfl) ?_
 refine mr_cl0 hH ⟨rfl, rfl⟩ (mr_runV (As := []) (rest := [.long r]) X hH hR hroot OX12.1 kM_L_195 kI_X12_ovoid kS_X12_ovoid kN_X12 kC_X12_ovoid hd_X12_ovoid ⟨Nat.le_of_ble_eq_true rfl, Nat.le_of_ble_eq_true rfl⟩ rfl hl.1 (Nat.le_of_ble_eq_true rfl) (dk DL_law_13 1 rfl) ⟨room_le3 (c := cells + 161) (b := rm_X12_ovoid.cells) (K := 601024) rfl hc, room_le3 (c := slots + 7887) (b := rm_X12_ovoid.slots) (K := 7293034) rfl hs⟩) (fun r2 h2 H locs hp2 hH => ?_)
 replace hp2 : r2 = r ∧ h2 = oset LX12 G q x h1 := hp2
 obtain ⟨e1, e2⟩ := hp2
 subst e2
 refine W.lcmp X.x X.b (dk DL_law_13 2 rfl) ?_
 refine lv_if_eq (tgt := 2497) X.x X.b (dk DL_law_13 3 rfl) (by decide) (fun _ => ?_) (fun z => absurd ((lg_cmp_eq _ _).mpr e1.symm) z)
 exact kk _ _ _ _ hJ2 hH (lv_sub hl [0, 1, 2, 3, 4] rfl)
set_option maxHeartbeats 4000000 in
set_option maxRecDepth 100000 in
theorem lc_ovoids {p : Program} {l : Launch} {e : Env} {s : State} {m : MethodId} {args : Array Value} {below : List Frame} {meth : Method} {c : Code} {G : mG} {L : Nat} {xs : Nat → Int32} {bS a b ao : Nat} (X : mX G p m c code 8 s args RL) (hX : va_X bS L xs s s.heap) (hbl : bS < s.heap.size) (hbA : ¬ mA G bS) {J : mM → Prop} (hJa : ∀ m, J m → ∃ fs, m a = some (.inr (LX11.1, fs))) (hAg : Ag_ovoids l G J a b ao) {x4 A1 A2 A3 A4 A5 : Int32} (g1 : vp_in (x4 + 1) L ∧ xs (x4 + 1).toNatClampNeg = A1) (g2 : vp_in (x4 + 2) L ∧ xs (x4 + 2).toNatClampNeg = A2) (g3 : vp_in (x4 + 3) L ∧ xs (x4 + 3).toNatClampNeg = A3) (g4 : vp_in (x4 + 4) L ∧ xs (x4 + 4).toNatClampNeg = A4) (g5 : vp_in (x4 + 5) L ∧ xs (x4 + 5).toNatClampNeg = A5) {mm : mM} {H : Heap} {locs : List Loc} {ls : Array Slot} (hJ : J mm) (hH : mH G mm s.heap H locs) (hl : lv_has ls 8 [(0, .ref bS), (1, .ref a), (2, .ref b), (3, .ref ao), (4, .int x4)]) {cells slots : Nat} (hc : cells + 161 ≤ 601024) (hs : slots + 7887 ≤ 7293034) {Q : State → Prop}
    (kk : ∀ (mm : mM) (H : Heap) (locs : List Loc) (ls : Array Slot), J mm → mH G mm s.heap H locs → lv_has ls 8 [(0, .ref bS), (1, .ref a), (2, .ref b), (3, .ref ao), (4, .int x4)] → W p l e room_1 s m args below meth c H locs (cells + 161) (slots + 7887) Q (F0 m 2497 ls [])) :
    W p l e room_1 s m args below meth c H locs cells slots Q (F0 m 1400 ls []) := by
 refine lv_aload_n X.x X.b (dk DL_law_13 6 rfl) rfl (lv_at hl 1 rfl) ?_
 obtain ⟨Pm, hC, hP⟩ := hAg mm  hJ
 obtain ⟨fs, ha⟩ := hJa mm hJ
 refine mr_ci hH (mr_runV (As := []) (rest := []) X hH hC ha OX11.1 kM_L_196 kI_X11_ovoids kS_X11_ovoids kN_X11 kC_X11_ovoids hd_X11_ovoids ⟨Nat.le_of_ble_eq_true rfl, Nat.le_of_ble_eq_true rfl⟩ rfl hl.1 (Nat.le_of_ble_eq_true rfl) (dk DL_law_13 7 rfl) ⟨room_le1 (a := rm_X11_ovoids.cells) (x := 0) (K := 601024) rfl (by omega), room_le1 (a := rm_X11_ovoids.slots) (x := 0) (K := 7293034) rfl (by omega)⟩) (fun r h1 H locs hp hH => ?_)
 obtain ⟨q, st, x, hqb, hq, hm, hF, hJ2⟩ := hP r h1 hp
 refine W.widen (k := cells + 161) (n := slots + 7887) (room_le1 (a := rm_X11_ovoids.cells) (x := 0) rfl (by omega)) (room_le1 (a := rm_X11_ovoids.slots) (x := 0) rfl (by omega)) ?_
 subst hqb
 have hR := c_X12_ovoids (l := l) (G := G) (h := h1) hq hF
 rw [hm] at hR
 have hroot := (oset_at (G := G) (st := st) (h := h1) hq (Nat.le_refl _) ohas_N).trans (congrArg some ocell_N)
 rw [hm] at hroot
 have hroot2 := (oset_at (G := G) (st := x) (h := h1) hq (Nat.le_refl _) ohas_N).trans (congrArg some ocell_N)
 refine lv_aload_n X.x X.b (dk DL_law_13 8 rfl) rfl (lv_at hl 2 rfl) ?_
 refine mr_ci0 hH ⟨rfl, rfl⟩ (mr_runV (As := []) (rest := [.int r]) X hH hR hroot OX12.1 kM_L_199 kI_X12_ovoids kS_X12_ovoids kN_X12 kC_X12_ovoids hd_X12_ovoids ⟨Nat.le_of_ble_eq_true rfl, Nat.le_of_ble_eq_true rfl⟩ rfl hl.1 (Nat.le_of_ble_eq_true rfl) (dk DL_law_13 9 rfl) ⟨room_le3 (c := cells + 161) (b := rm_X12_ovoids.cells) (K := 601024) rfl hc, room_le3 (c := slots + 7887) (b := rm_X12_ovoids.slots) (K := 7293034) rfl hs⟩) (fun r2 h2 H locs hp2 hH => ?_)
 replace hp2 : r2 = r ∧ h2 = oset LX12 G q x h1 := hp2
 obtain ⟨e1, e2⟩ := hp2
 subst e2
 refine lv_icmp_eq (tgt := 2497) X.x X.b (dk DL_law_13 10 rfl) (by decide) (fun _ => ?_) (fun z => absurd e1.symm z)
 exact kk _ _ _ _ hJ2 hH (lv_sub hl [0, 1, 2, 3, 4] rfl)
set_option maxHeartbeats 4000000 in
set_option maxRecDepth 100000 in
theorem lc_spread {p : Program} {l : Launch} {e : Env} {s : State} {m : MethodId} {args : Array Value} {below : List Frame} {meth : Method} {c : Code} {G : mG} {L : Nat} {xs : Nat → Int32} {bS a b ao : Nat} (X : mX G p m c code 8 s args RL) (hX : va_X bS L xs s s.heap) (hbl : bS < s.heap.size) (hbA : ¬ mA G bS) {J : mM → Prop} (hJa : ∀ m, J m → ∃ fs, m a = some (.inr (LX11.1, fs))) (hAg : Ag_spread l G J a b ao) {x4 A1 A2 A3 A4 A5 : Int32} (g1 : vp_in (x4 + 1) L ∧ xs (x4 + 1).toNatClampNeg = A1) (g2 : vp_in (x4 + 2) L ∧ xs (x4 + 2).toNatClampNeg = A2) (g3 : vp_in (x4 + 3) L ∧ xs (x4 + 3).toNatClampNeg = A3) (g4 : vp_in (x4 + 4) L ∧ xs (x4 + 4).toNatClampNeg = A4) (g5 : vp_in (x4 + 5) L ∧ xs (x4 + 5).toNatClampNeg = A5) {mm : mM} {H : Heap} {locs : List Loc} {ls : Array Slot} (hJ : J mm) (hH : mH G mm s.heap H locs) (hl : lv_has ls 8 [(0, .ref bS), (1, .ref a), (2, .ref b), (3, .ref ao), (4, .int x4)]) {cells slots : Nat} (hc : cells + 161 ≤ 601024) (hs : slots + 7887 ≤ 7293034) {Q : State → Prop}
    (kk : ∀ (mm : mM) (H : Heap) (locs : List Loc) (ls : Array Slot), J mm → mH G mm s.heap H locs → lv_has ls 8 [(0, .ref bS), (1, .ref a), (2, .ref b), (3, .ref ao), (4, .int x4)] → W p l e room_1 s m args below meth c H locs (cells + 161) (slots + 7887) Q (F0 m 2497 ls [])) :
    W p l e room_1 s m args below meth c H locs cells slots Q (F0 m 1413 ls []) := by
 refine lv_aload_n X.x X.b (dk DL_law_13 13 rfl) rfl (lv_at hl 1 rfl) ?_
 obtain ⟨Pm, hC, hP⟩ := hAg mm  hJ
 obtain ⟨fs, ha⟩ := hJa mm hJ
 refine mr_cl hH (mr_runV (As := []) (rest := []) X hH hC ha OX11.1 kM_L_200 kI_X11_spread kS_X11_spread kN_X11 kC_X11_spread hd_X11_spread ⟨Nat.le_of_ble_eq_true rfl, Nat.le_of_ble_eq_true rfl⟩ rfl hl.1 (Nat.le_of_ble_eq_true rfl) (dk DL_law_13 14 rfl) ⟨room_le1 (a := rm_X11_spread.cells) (x := 0) (K := 601024) rfl (by omega), room_le1 (a := rm_X11_spread.slots) (x := 0) (K := 7293034) rfl (by omega)⟩) (fun r h1 H locs hp hH => ?_)
 obtain ⟨q, st, x, hqb, hq, hm, hF, hJ2⟩ := hP r h1 hp
 refine W.widen (k := cells + 161) (n := slots + 7887) (room_le1 (a := rm_X11_spread.cells) (x := 0) rfl (by omega)) (room_le1 (a := rm_X11_spread.slots) (x := 0) rfl (by omega)) ?_
 subst hqb
 have hR := c_X12_spread (l := l) (G := G) (h := h1) hq hF
 rw [hm] at hR
 have hroot := (oset_at (G := G) (st := st) (h := h1) hq (Nat.le_refl _) ohas_N).trans (congrArg some ocell_N)
 rw [hm] at hroot
 have hroot2 := (oset_at (G := G) (st := x) (h := h1) hq (Nat.le_refl _) ohas_N).trans (congrArg some ocell_N)
 refine lv_aload_n X.x X.b (dk DL_law_13 15 rfl) rfl (lv_at hl 2 rfl) ?_
 refine mr_cl0 hH ⟨rfl, rfl⟩ (mr_runV (As := []) (rest := [.long r]) X hH hR hroot OX12.1 kM_L_203 kI_X12_spread kS_X12_spread kN_X12 kC_X12_spread hd_X12_spread ⟨Nat.le_of_ble_eq_true rfl, Nat.le_of_ble_eq_true rfl⟩ rfl hl.1 (Nat.le_of_ble_eq_true rfl) (dk DL_law_13 16 rfl) ⟨room_le3 (c := cells + 161) (b := rm_X12_spread.cells) (K := 601024) rfl hc, room_le3 (c := slots + 7887) (b := rm_X12_spread.slots) (K := 7293034) rfl hs⟩) (fun r2 h2 H locs hp2 hH => ?_)
 replace hp2 : r2 = r ∧ h2 = oset LX12 G q x h1 := hp2
 obtain ⟨e1, e2⟩ := hp2
 subst e2
 refine W.lcmp X.x X.b (dk DL_law_13 17 rfl) ?_
 refine lv_if_eq (tgt := 2497) X.x X.b (dk DL_law_13 18 rfl) (by decide) (fun _ => ?_) (fun z => absurd ((lg_cmp_eq _ _).mpr e1.symm) z)
 exact kk _ _ _ _ hJ2 hH (lv_sub hl [0, 1, 2, 3, 4] rfl)
set_option maxHeartbeats 4000000 in
set_option maxRecDepth 100000 in
theorem lc_spreads {p : Program} {l : Launch} {e : Env} {s : State} {m : MethodId} {args : Array Value} {below : List Frame} {meth : Method} {c : Code} {G : mG} {L : Nat} {xs : Nat → Int32} {bS a b ao : Nat} (X : mX G p m c code 8 s args RL) (hX : va_X bS L xs s s.heap) (hbl : bS < s.heap.size) (hbA : ¬ mA G bS) {J : mM → Prop} (hJa : ∀ m, J m → ∃ fs, m a = some (.inr (LX11.1, fs))) (hAg : Ag_spreads l G J a b ao) {x4 A1 A2 A3 A4 A5 : Int32} (g1 : vp_in (x4 + 1) L ∧ xs (x4 + 1).toNatClampNeg = A1) (g2 : vp_in (x4 + 2) L ∧ xs (x4 + 2).toNatClampNeg = A2) (g3 : vp_in (x4 + 3) L ∧ xs (x4 + 3).toNatClampNeg = A3) (g4 : vp_in (x4 + 4) L ∧ xs (x4 + 4).toNatClampNeg = A4) (g5 : vp_in (x4 + 5) L ∧ xs (x4 + 5).toNatClampNeg = A5) {mm : mM} {H : Heap} {locs : List Loc} {ls : Array Slot} (hJ : J mm) (hH : mH G mm s.heap H locs) (hl : lv_has ls 8 [(0, .ref bS), (1, .ref a), (2, .ref b), (3, .ref ao), (4, .int x4)]) {cells slots : Nat} (hc : cells + 161 ≤ 601024) (hs : slots + 7887 ≤ 7293034) {Q : State → Prop}
    (kk : ∀ (mm : mM) (H : Heap) (locs : List Loc) (ls : Array Slot), J mm → mH G mm s.heap H locs → lv_has ls 8 [(0, .ref bS), (1, .ref a), (2, .ref b), (3, .ref ao), (4, .int x4)] → W p l e room_1 s m args below meth c H locs (cells + 161) (slots + 7887) Q (F0 m 2497 ls [])) :
    W p l e room_1 s m args below meth c H locs cells slots Q (F0 m 1427 ls []) := by
 refine lv_aload_n X.x X.b (dk DL_law_13 21 rfl) rfl (lv_at hl 1 rfl) ?_
 obtain ⟨Pm, hC, hP⟩ := hAg mm  hJ
 obtain ⟨fs, ha⟩ := hJa mm hJ
 refine mr_ci hH (mr_runV (As := []) (rest := []) X hH hC ha OX11.1 kM_L_204 kI_X11_spreads kS_X11_spreads kN_X11 kC_X11_spreads hd_X11_spreads ⟨Nat.le_of_ble_eq_true rfl, Nat.le_of_ble_eq_true rfl⟩ rfl hl.1 (Nat.le_of_ble_eq_true rfl) (dk DL_law_13 22 rfl) ⟨room_le1 (a := rm_X11_spreads.cells) (x := 0) (K := 601024) rfl (by omega), room_le1 (a := rm_X11_spreads.slots) (x := 0) (K := 7293034) rfl (by omega)⟩) (fun r h1 H locs hp hH => ?_)
 obtain ⟨q, st, x, hqb, hq, hm, hF, hJ2⟩ := hP r h1 hp
 refine W.widen (k := cells + 161) (n := slots + 7887) (room_le1 (a := rm_X11_spreads.cells) (x := 0) rfl (by omega)) (room_le1 (a := rm_X11_spreads.slots) (x := 0) rfl (by omega)) ?_
 subst hqb
 have hR := c_X12_spreads (l := l) (G := G) (h := h1) hq hF
 rw [hm] at hR
 have hroot := (oset_at (G := G) (st := st) (h := h1) hq (Nat.le_refl _) ohas_N).trans (congrArg some ocell_N)
 rw [hm] at hroot
 have hroot2 := (oset_at (G := G) (st := x) (h := h1) hq (Nat.le_refl _) ohas_N).trans (congrArg some ocell_N)
 refine lv_aload_n X.x X.b (dk DL_law_13 23 rfl) rfl (lv_at hl 2 rfl) ?_
 refine mr_ci0 hH ⟨rfl, rfl⟩ (mr_runV (As := []) (rest := [.int r]) X hH hR hroot OX12.1 kM_L_207 kI_X12_spreads kS_X12_spreads kN_X12 kC_X12_spreads hd_X12_spreads ⟨Nat.le_of_ble_eq_true rfl, Nat.le_of_ble_eq_true rfl⟩ rfl hl.1 (Nat.le_of_ble_eq_true rfl) (dk DL_law_13 24 rfl) ⟨room_le3 (c := cells + 161) (b := rm_X12_spreads.cells) (K := 601024) rfl hc, room_le3 (c := slots + 7887) (b := rm_X12_spreads.slots) (K := 7293034) rfl hs⟩) (fun r2 h2 H locs hp2 hH => ?_)
 replace hp2 : r2 = r ∧ h2 = oset LX12 G q x h1 := hp2
 obtain ⟨e1, e2⟩ := hp2
 subst e2
 refine lv_icmp_eq (tgt := 2497) X.x X.b (dk DL_law_13 25 rfl) (by decide) (fun _ => ?_) (fun z => absurd e1.symm z)
 exact kk _ _ _ _ hJ2 hH (lv_sub hl [0, 1, 2, 3, 4] rfl)
set_option maxHeartbeats 4000000 in
set_option maxRecDepth 100000 in
theorem lc_cap {p : Program} {l : Launch} {e : Env} {s : State} {m : MethodId} {args : Array Value} {below : List Frame} {meth : Method} {c : Code} {G : mG} {L : Nat} {xs : Nat → Int32} {bS a b ao : Nat} (X : mX G p m c code 8 s args RL) (hX : va_X bS L xs s s.heap) (hbl : bS < s.heap.size) (hbA : ¬ mA G bS) {J : mM → Prop} (hJa : ∀ m, J m → ∃ fs, m a = some (.inr (LX11.1, fs))) (hAg : Ag_cap l G J a b ao) {x4 A1 A2 A3 A4 A5 : Int32} (g1 : vp_in (x4 + 1) L ∧ xs (x4 + 1).toNatClampNeg = A1) (g2 : vp_in (x4 + 2) L ∧ xs (x4 + 2).toNatClampNeg = A2) (g3 : vp_in (x4 + 3) L ∧ xs (x4 + 3).toNatClampNeg = A3) (g4 : vp_in (x4 + 4) L ∧ xs (x4 + 4).toNatClampNeg = A4) (g5 : vp_in (x4 + 5) L ∧ xs (x4 + 5).toNatClampNeg = A5) {mm : mM} {H : Heap} {locs : List Loc} {ls : Array Slot} (hJ : J mm) (hH : mH G mm s.heap H locs) (hl : lv_has ls 8 [(0, .ref bS), (1, .ref a), (2, .ref b), (3, .ref ao), (4, .int x4)]) {cells slots : Nat} (hc : cells + 161 ≤ 601024) (hs : slots + 7887 ≤ 7293034) {Q : State → Prop}
    (kk : ∀ (mm : mM) (H : Heap) (locs : List Loc) (ls : Array Slot), J mm → mH G mm s.heap H locs → lv_has ls 8 [(0, .ref bS), (1, .ref a), (2, .ref b), (3, .ref ao), (4, .int x4)] → W p l e room_1 s m args below meth c H locs (cells + 161) (slots + 7887) Q (F0 m 2497 ls [])) :
    W p l e room_1 s m args below meth c H locs cells slots Q (F0 m 1440 ls []) := by
 refine lv_aload_n X.x X.b (dk DL_law_13 28 rfl) rfl (lv_at hl 1 rfl) ?_
 obtain ⟨Pm, hC, hP⟩ := hAg mm  hJ
 obtain ⟨fs, ha⟩ := hJa mm hJ
 refine mr_cl hH (mr_runV (As := []) (rest := []) X hH hC ha OX11.1 kM_L_208 kI_X11_cap kS_X11_cap kN_X11 kC_X11_cap hd_X11_cap ⟨Nat.le_of_ble_eq_true rfl, Nat.le_of_ble_eq_true rfl⟩ rfl hl.1 (Nat.le_of_ble_eq_true rfl) (dk DL_law_13 29 rfl) ⟨room_le1 (a := rm_X11_cap.cells) (x := 0) (K := 601024) rfl (by omega), room_le1 (a := rm_X11_cap.slots) (x := 0) (K := 7293034) rfl (by omega)⟩) (fun r h1 H locs hp hH => ?_)
 obtain ⟨q, st, x, hqb, hq, hm, hF, hJ2⟩ := hP r h1 hp
 refine W.widen (k := cells + 161) (n := slots + 7887) (room_le1 (a := rm_X11_cap.cells) (x := 0) rfl (by omega)) (room_le1 (a := rm_X11_cap.slots) (x := 0) rfl (by omega)) ?_
 subst hqb
 have hR := c_X12_cap (l := l) (G := G) (h := h1) hq hF
 rw [hm] at hR
 have hroot := (oset_at (G := G) (st := st) (h := h1) hq (Nat.le_refl _) ohas_N).trans (congrArg some ocell_N)
 rw [hm] at hroot
 have hroot2 := (oset_at (G := G) (st := x) (h := h1) hq (Nat.le_refl _) ohas_N).trans (congrArg some ocell_N)
 refine lv_aload_n X.x X.b (dk DL_law_13 30 rfl) rfl (lv_at hl 2 rfl) ?_
 refine mr_cl0 hH ⟨rfl, rfl⟩ (mr_runV (As := []) (rest := [.long r]) X hH hR hroot OX12.1 kM_L_211 kI_X12_cap kS_X12_cap kN_X12 kC_X12_cap hd_X12_cap ⟨Nat.le_of_ble_eq_true rfl, Nat.le_of_ble_eq_true rfl⟩ rfl hl.1 (Nat.le_of_ble_eq_true rfl) (dk DL_law_13 31 rfl) ⟨room_le3 (c := cells + 161) (b := rm_X12_cap.cells) (K := 601024) rfl hc, room_le3 (c := slots + 7887) (b := rm_X12_cap.slots) (K := 7293034) rfl hs⟩) (fun r2 h2 H locs hp2 hH => ?_)
 replace hp2 : r2 = r ∧ h2 = oset LX12 G q x h1 := hp2
 obtain ⟨e1, e2⟩ := hp2
 subst e2
 refine W.lcmp X.x X.b (dk DL_law_13 32 rfl) ?_
 refine lv_if_eq (tgt := 2497) X.x X.b (dk DL_law_13 33 rfl) (by decide) (fun _ => ?_) (fun z => absurd ((lg_cmp_eq _ _).mpr e1.symm) z)
 exact kk _ _ _ _ hJ2 hH (lv_sub hl [0, 1, 2, 3, 4] rfl)
set_option maxHeartbeats 4000000 in
set_option maxRecDepth 100000 in
theorem lc_triads {p : Program} {l : Launch} {e : Env} {s : State} {m : MethodId} {args : Array Value} {below : List Frame} {meth : Method} {c : Code} {G : mG} {L : Nat} {xs : Nat → Int32} {bS a b ao : Nat} (X : mX G p m c code 8 s args RL) (hX : va_X bS L xs s s.heap) (hbl : bS < s.heap.size) (hbA : ¬ mA G bS) {J : mM → Prop} (hJa : ∀ m, J m → ∃ fs, m a = some (.inr (LX11.1, fs))) (hAg : Ag_triads l G J a b ao) {x4 A1 A2 A3 A4 A5 : Int32} (g1 : vp_in (x4 + 1) L ∧ xs (x4 + 1).toNatClampNeg = A1) (g2 : vp_in (x4 + 2) L ∧ xs (x4 + 2).toNatClampNeg = A2) (g3 : vp_in (x4 + 3) L ∧ xs (x4 + 3).toNatClampNeg = A3) (g4 : vp_in (x4 + 4) L ∧ xs (x4 + 4).toNatClampNeg = A4) (g5 : vp_in (x4 + 5) L ∧ xs (x4 + 5).toNatClampNeg = A5) {mm : mM} {H : Heap} {locs : List Loc} {ls : Array Slot} (hJ : J mm) (hH : mH G mm s.heap H locs) (hl : lv_has ls 8 [(0, .ref bS), (1, .ref a), (2, .ref b), (3, .ref ao), (4, .int x4)]) {cells slots : Nat} (hc : cells + 161 ≤ 601024) (hs : slots + 7887 ≤ 7293034) {Q : State → Prop}
    (kk : ∀ (mm : mM) (H : Heap) (locs : List Loc) (ls : Array Slot), J mm → mH G mm s.heap H locs → lv_has ls 8 [(0, .ref bS), (1, .ref a), (2, .ref b), (3, .ref ao), (4, .int x4)] → W p l e room_1 s m args below meth c H locs (cells + 161) (slots + 7887) Q (F0 m 2497 ls [])) :
    W p l e room_1 s m args below meth c H locs cells slots Q (F0 m 1454 ls []) := by
 refine lv_aload_n X.x X.b (dk DL_law_13 36 rfl) rfl (lv_at hl 1 rfl) ?_
 refine lv_aload_n X.x X.b (dk DL_law_13 37 rfl) rfl (lv_at hl 0 rfl) ?_
 refine lv_iload X.x X.b (dk DL_law_13 38 rfl) (lv_at hl 4 rfl) ?_
 refine lv_iconst (v := 1) X.x X.b (dk DL_law_13 39 rfl) (by decide) ?_
 refine lv_iadd X.x X.b (dk DL_law_13 40 rfl) ?_
 refine lw_sld X hH hX hbl hbA g1.1 g1.2 (dk DL_law_13 41 rfl) ?_
 obtain ⟨Pm, hC, hP⟩ := hAg mm A1 hJ
 obtain ⟨fs, ha⟩ := hJa mm hJ
 refine mr_ci hH (mr_runV (As := [.int A1]) (rest := []) X hH hC ha OX11.1 kM_L_212 kI_X11_triads kS_X11_triads kN_X11 kC_X11_triads hd_X11_triads ⟨Nat.le_of_ble_eq_true rfl, Nat.le_of_ble_eq_true rfl⟩ rfl hl.1 (Nat.le_of_ble_eq_true rfl) (dk DL_law_13 42 rfl) ⟨room_le1 (a := rm_X11_triads.cells) (x := 0) (K := 601024) rfl (by omega), room_le1 (a := rm_X11_triads.slots) (x := 0) (K := 7293034) rfl (by omega)⟩) (fun r h1 H locs hp hH => ?_)
 obtain ⟨q, st, x, hqb, hq, hm, hF, hJ2⟩ := hP r h1 hp
 refine W.widen (k := cells + 161) (n := slots + 7887) (room_le1 (a := rm_X11_triads.cells) (x := 0) rfl (by omega)) (room_le1 (a := rm_X11_triads.slots) (x := 0) rfl (by omega)) ?_
 subst hqb
 have hR := c_X12_triads (l := l) (G := G) (h := h1) hq hF
 rw [hm] at hR
 have hroot := (oset_at (G := G) (st := st) (h := h1) hq (Nat.le_refl _) ohas_N).trans (congrArg some ocell_N)
 rw [hm] at hroot
 have hroot2 := (oset_at (G := G) (st := x) (h := h1) hq (Nat.le_refl _) ohas_N).trans (congrArg some ocell_N)
 refine lv_aload_n X.x X.b (dk DL_law_13 43 rfl) rfl (lv_at hl 2 rfl) ?_
 refine lv_aload_n X.x X.b (dk DL_law_13 44 rfl) rfl (lv_at hl 0 rfl) ?_
 refine lv_iload X.x X.b (dk DL_law_13 45 rfl) (lv_at hl 4 rfl) ?_
 refine lv_iconst (v := 1) X.x X.b (dk DL_law_13 46 rfl) (by decide) ?_
 refine lv_iadd X.x X.b (dk DL_law_13 47 rfl) ?_
 refine lw_sld X hH hX hbl hbA g1.1 g1.2 (dk DL_law_13 48 rfl) ?_
 refine mr_ci0 hH ⟨rfl, rfl⟩ (mr_runV (As := [.int A1]) (rest := [.int r]) X hH hR hroot OX12.1 kM_L_215 kI_X12_triads kS_X12_triads kN_X12 kC_X12_triads hd_X12_triads ⟨Nat.le_of_ble_eq_true rfl, Nat.le_of_ble_eq_true rfl⟩ rfl hl.1 (Nat.le_of_ble_eq_true rfl) (dk DL_law_13 49 rfl) ⟨room_le3 (c := cells + 161) (b := rm_X12_triads.cells) (K := 601024) rfl hc, room_le3 (c := slots + 7887) (b := rm_X12_triads.slots) (K := 7293034) rfl hs⟩) (fun r2 h2 H locs hp2 hH => ?_)
 replace hp2 : r2 = r ∧ h2 = oset LX12 G q x h1 := hp2
 obtain ⟨e1, e2⟩ := hp2
 subst e2
 refine lv_icmp_eq (tgt := 2497) X.x X.b (dk DL_law_13 50 rfl) (by decide) (fun _ => ?_) (fun z => absurd e1.symm z)
 exact kk _ _ _ _ hJ2 hH (lv_sub hl [0, 1, 2, 3, 4] rfl)
set_option maxHeartbeats 4000000 in
set_option maxRecDepth 100000 in
theorem lc_walks {p : Program} {l : Launch} {e : Env} {s : State} {m : MethodId} {args : Array Value} {below : List Frame} {meth : Method} {c : Code} {G : mG} {L : Nat} {xs : Nat → Int32} {bS a b ao : Nat} (X : mX G p m c code 8 s args RL) (hX : va_X bS L xs s s.heap) (hbl : bS < s.heap.size) (hbA : ¬ mA G bS) {J : mM → Prop} (hJa : ∀ m, J m → ∃ fs, m a = some (.inr (LX11.1, fs))) (hAg : Ag_walks l G J a b ao) {x4 A1 A2 A3 A4 A5 : Int32} (g1 : vp_in (x4 + 1) L ∧ xs (x4 + 1).toNatClampNeg = A1) (g2 : vp_in (x4 + 2) L ∧ xs (x4 + 2).toNatClampNeg = A2) (g3 : vp_in (x4 + 3) L ∧ xs (x4 + 3).toNatClampNeg = A3) (g4 : vp_in (x4 + 4) L ∧ xs (x4 + 4).toNatClampNeg = A4) (g5 : vp_in (x4 + 5) L ∧ xs (x4 + 5).toNatClampNeg = A5) {mm : mM} {H : Heap} {locs : List Loc} {ls : Array Slot} (hJ : J mm) (hH : mH G mm s.heap H locs) (hl : lv_has ls 8 [(0, .ref bS), (1, .ref a), (2, .ref b), (3, .ref ao), (4, .int x4)]) {cells slots : Nat} (hc : cells + 161 ≤ 601024) (hs : slots + 7887 ≤ 7293034) {Q : State → Prop}
    (kk : ∀ (mm : mM) (H : Heap) (locs : List Loc) (ls : Array Slot), J mm → mH G mm s.heap H locs → lv_has ls 8 [(0, .ref bS), (1, .ref a), (2, .ref b), (3, .ref ao), (4, .int x4)] → W p l e room_1 s m args below meth c H locs (cells + 161) (slots + 7887) Q (F0 m 2497 ls [])) :
    W p l e room_1 s m args below meth c H locs cells slots Q (F0 m 1479 ls []) := by
 refine lv_aload_n X.x X.b (dk DL_law_13 53 rfl) rfl (lv_at hl 1 rfl) ?_
 refine lv_aload_n X.x X.b (dk DL_law_13 54 rfl) rfl (lv_at hl 0 rfl) ?_
 refine lv_iload X.x X.b (dk DL_law_13 55 rfl) (lv_at hl 4 rfl) ?_
 refine lv_iconst (v := 1) X.x X.b (dk DL_law_13 56 rfl) (by decide) ?_
 refine lv_iadd X.x X.b (dk DL_law_13 57 rfl) ?_
 refine lw_sld X hH hX hbl hbA g1.1 g1.2 (dk DL_law_13 58 rfl) ?_
 refine lv_aload_n X.x X.b (dk DL_law_13 59 rfl) rfl (lv_at hl 3 rfl) ?_
 obtain ⟨Pm, hC, hP⟩ := hAg mm A1 hJ
 refine mr_xi hH (mr_hrunS (As := [.ref a, .int A1, .ref ao]) (rest := []) X hH hC kM_L_216 kT_L_walks kN_L kW_L_walks hd_L_walks ⟨Nat.le_of_ble_eq_true rfl, Nat.le_of_ble_eq_true rfl⟩ rfl hl.1 (Nat.le_of_ble_eq_true rfl) (dk DL_law_14 0 rfl) ⟨room_le1 (a := rm_L_walks.cells) (x := 1) (K := 601024) rfl (by omega), room_le1 (a := rm_L_walks.slots) (x := 6) (K := 7293034) rfl (by omega)⟩) (fun E h1 q9 H locs hp hH hth => hp.elim) (fun r h1 H locs hp hH => ?_)
 obtain ⟨q, st, x, bv, fo, hqb, hq, hm, hF, hx2, hfo, hv, hJ2⟩ := hP r h1 hp
 refine W.widen (k := cells + 161) (n := slots + 7887) (room_le1 (a := rm_L_walks.cells) (x := 1) rfl (by omega)) (room_le1 (a := rm_L_walks.slots) (x := 6) rfl (by omega)) ?_
 subst hqb
 have hR := c_X12_walks (l := l) (G := G) (h := h1) hq hF
 rw [hm] at hR
 have hroot := (oset_at (G := G) (st := st) (h := h1) hq (Nat.le_refl _) ohas_N).trans (congrArg some ocell_N)
 rw [hm] at hroot
 have hroot2 := (oset_at (G := G) (st := x) (h := h1) hq (Nat.le_refl _) ohas_N).trans (congrArg some ocell_N)
 refine lv_istore (lv' := [(5, .int r), (0, .ref bS), (1, .ref a), (2, .ref (q 53)), (3, .ref ao), (4, .int x4)]) X.x X.b (dk DL_law_14 1 rfl) hl (by decide) rfl (fun ls hl => ?_)
 replace hl : lv_has ls 8 [(0, .ref bS), (1, .ref a), (2, .ref (q 53)), (3, .ref ao), (4, .int x4), (5, .int r)] := lv_sub hl [1, 2, 3, 4, 5, 0] rfl
 refine lv_aload_n X.x X.b (dk DL_law_14 2 rfl) rfl (lv_at hl 2 rfl) ?_
 refine lv_aload_n X.x X.b (dk DL_law_14 3 rfl) rfl (lv_at hl 0 rfl) ?_
 refine lv_iload X.x X.b (dk DL_law_14 4 rfl) (lv_at hl 4 rfl) ?_
 refine lv_iconst (v := 1) X.x X.b (dk DL_law_14 5 rfl) (by decide) ?_
 refine lv_iadd X.x X.b (dk DL_law_14 6 rfl) ?_
 refine lw_sld X hH hX hbl hbA g1.1 g1.2 (dk DL_law_14 7 rfl) ?_
 refine mr_ci0 hH ⟨rfl, rfl⟩ (mr_runV (As := [.int A1]) (rest := []) X hH hR hroot OX12.1 kM_L_218 kI_X12_walks kS_X12_walks kN_X12 kC_X12_walks hd_X12_walks ⟨Nat.le_of_ble_eq_true rfl, Nat.le_of_ble_eq_true rfl⟩ rfl hl.1 (Nat.le_of_ble_eq_true rfl) (dk DL_law_14 8 rfl) ⟨room_le3 (c := cells + 161) (b := rm_X12_walks.cells) (K := 601024) rfl hc, room_le3 (c := slots + 7887) (b := rm_X12_walks.slots) (K := 7293034) rfl hs⟩) (fun r2 h2 H locs hp2 hH => ?_)
 replace hp2 : r2 = bv ∧ h2 = oset LX12 G q x h1 := hp2
 obtain ⟨e1, e2⟩ := hp2
 subst e2
 refine lv_istore (lv' := [(6, .int r2), (0, .ref bS), (1, .ref a), (2, .ref (q 53)), (3, .ref ao), (4, .int x4), (5, .int r)]) X.x X.b (dk DL_law_14 9 rfl) hl (by decide) rfl (fun ls hl => ?_)
 replace hl : lv_has ls 8 [(0, .ref bS), (1, .ref a), (2, .ref (q 53)), (3, .ref ao), (4, .int x4), (5, .int r), (6, .int r2)] := lv_sub hl [1, 2, 3, 4, 5, 6, 0] rfl
 refine lv_aload_n X.x X.b (dk DL_law_14 10 rfl) rfl (lv_at hl 2 rfl) ?_
 refine mr_ci0 hH ⟨rfl, rfl⟩ (mr_runV (As := []) (rest := []) X hH (c_X12_thrown (l := l) (G := G) (h := h1) hq (st := x) (x := x.1 2) rfl) hroot2 OX12.1 kM_L_128 kI_X12_thrown kS_X12_thrown kN_X12 kC_X12_thrown hd_X12_thrown ⟨Nat.le_of_ble_eq_true rfl, Nat.le_of_ble_eq_true rfl⟩ rfl hl.1 (Nat.le_of_ble_eq_true rfl) (dk DL_law_14 11 rfl) ⟨room_le3 (c := cells + 161) (b := rm_X12_thrown.cells) (K := 601024) rfl hc, room_le3 (c := slots + 7887) (b := rm_X12_thrown.slots) (K := 7293034) rfl hs⟩) (fun r3 h3 H locs hp3 hH => ?_)
 obtain ⟨e3, e4⟩ := hp3
 subst e4
 refine lv_iload X.x X.b (dk DL_law_14 12 rfl) (lv_at hl 5 rfl) ?_
 refine lv_icmp_eq (tgt := 1515) X.x X.b (dk DL_law_14 13 rfl) (by decide) (fun _ => ?_) (fun z => absurd (e3.trans hx2) z)
 refine lv_iload X.x X.b (dk DL_law_14 16 rfl) (lv_at hl 5 rfl) ?_
 refine lv_if_ne (tgt := 1532) X.x X.b (dk DL_law_14 17 rfl) (by decide) (fun c0 => ?_) (fun c0 => ?_)
 · refine lv_goto (tgt := 2497) X.x X.b (dk DL_law_14 27 rfl) (by decide) ?_
   exact kk _ _ _ _ hJ2 hH (lv_sub hl [0, 1, 2, 3, 4] rfl)
 · refine lv_aload_n X.x X.b (dk DL_law_14 18 rfl) rfl (lv_at hl 3 rfl) ?_
   refine lv_iconst (v := 0) X.x X.b (dk DL_law_14 19 rfl) (by decide) ?_
   have hr0 : r = 0 := by first | exact c0 | exact Decidable.not_not.mp c0
   refine mr_lald X hH hfo (show vp_in (nI 0) 1 from vp_in_nI (by decide) (by decide)) (dk DL_law_14 20 rfl) ?_
   rw [show ((0 : Int32).toNatClampNeg) = 0 from rfl]
   refine lv_iload X.x X.b (dk DL_law_14 21 rfl) (lv_at hl 6 rfl) ?_
   refine lv_i2l X.x X.b (dk DL_law_14 22 rfl) rfl ?_
   refine W.lcmp X.x X.b (dk DL_law_14 23 rfl) ?_
   refine lv_if_eq (tgt := 1532) X.x X.b (dk DL_law_14 24 rfl) (by decide) (fun _ => ?_) (fun z => absurd ((lg_cmp_eq _ _).mpr ((hv hr0).trans (by rw [e1]))) z)
   refine lv_goto (tgt := 2497) X.x X.b (dk DL_law_14 27 rfl) (by decide) ?_
   exact kk _ _ _ _ hJ2 hH (lv_sub hl [0, 1, 2, 3, 4] rfl)
set_option maxHeartbeats 4000000 in
set_option maxRecDepth 100000 in
theorem lc_far {p : Program} {l : Launch} {e : Env} {s : State} {m : MethodId} {args : Array Value} {below : List Frame} {meth : Method} {c : Code} {G : mG} {L : Nat} {xs : Nat → Int32} {bS a b ao : Nat} (X : mX G p m c code 8 s args RL) (hX : va_X bS L xs s s.heap) (hbl : bS < s.heap.size) (hbA : ¬ mA G bS) {J : mM → Prop} (hJa : ∀ m, J m → ∃ fs, m a = some (.inr (LX11.1, fs))) (hAg : Ag_far l G J a b ao) {x4 A1 A2 A3 A4 A5 : Int32} (g1 : vp_in (x4 + 1) L ∧ xs (x4 + 1).toNatClampNeg = A1) (g2 : vp_in (x4 + 2) L ∧ xs (x4 + 2).toNatClampNeg = A2) (g3 : vp_in (x4 + 3) L ∧ xs (x4 + 3).toNatClampNeg = A3) (g4 : vp_in (x4 + 4) L ∧ xs (x4 + 4).toNatClampNeg = A4) (g5 : vp_in (x4 + 5) L ∧ xs (x4 + 5).toNatClampNeg = A5) {mm : mM} {H : Heap} {locs : List Loc} {ls : Array Slot} (hJ : J mm) (hH : mH G mm s.heap H locs) (hl : lv_has ls 8 [(0, .ref bS), (1, .ref a), (2, .ref b), (3, .ref ao), (4, .int x4)]) {cells slots : Nat} (hc : cells + 161 ≤ 601024) (hs : slots + 7887 ≤ 7293034) {Q : State → Prop}
    (kk : ∀ (mm : mM) (H : Heap) (locs : List Loc) (ls : Array Slot), J mm → mH G mm s.heap H locs → lv_has ls 8 [(0, .ref bS), (1, .ref a), (2, .ref b), (3, .ref ao), (4, .int x4)] → W p l e room_1 s m args below meth c H locs (cells + 161) (slots + 7887) Q (F0 m 2497 ls [])) :
    W p l e room_1 s m args below meth c H locs cells slots Q (F0 m 1535 ls []) := by
 refine lv_aload_n X.x X.b (dk DL_law_14 28 rfl) rfl (lv_at hl 1 rfl) ?_
 refine lv_aload_n X.x X.b (dk DL_law_14 29 rfl) rfl (lv_at hl 0 rfl) ?_
 refine lv_iload X.x X.b (dk DL_law_14 30 rfl) (lv_at hl 4 rfl) ?_
 refine lv_iconst (v := 1) X.x X.b (dk DL_law_14 31 rfl) (by decide) ?_
 refine lv_iadd X.x X.b (dk DL_law_14 32 rfl) ?_
 refine lw_sld X hH hX hbl hbA g1.1 g1.2 (dk DL_law_14 33 rfl) ?_
 refine lv_aload_n X.x X.b (dk DL_law_14 34 rfl) rfl (lv_at hl 0 rfl) ?_
 refine lv_iload X.x X.b (dk DL_law_14 35 rfl) (lv_at hl 4 rfl) ?_
 refine lv_iconst (v := 2) X.x X.b (dk DL_law_14 36 rfl) (by decide) ?_
 refine lv_iadd X.x X.b (dk DL_law_14 37 rfl) ?_
 refine lw_sld X hH hX hbl hbA g2.1 g2.2 (dk DL_law_14 38 rfl) ?_
 refine lv_aload_n X.x X.b (dk DL_law_14 39 rfl) rfl (lv_at hl 3 rfl) ?_
 obtain ⟨Pm, hC, hP⟩ := hAg mm A1 A2 hJ
 refine mr_xi hH (mr_hrunS (As := [.ref a, .int A1, .int A2, .ref ao]) (rest := []) X hH hC kM_L_219 kT_L_far kN_L kW_L_far hd_L_far ⟨Nat.le_of_ble_eq_true rfl, Nat.le_of_ble_eq_true rfl⟩ rfl hl.1 (Nat.le_of_ble_eq_true rfl) (dk DL_law_14 40 rfl) ⟨room_le1 (a := rm_L_far.cells) (x := 2) (K := 601024) rfl (by omega), room_le1 (a := rm_L_far.slots) (x := 12) (K := 7293034) rfl (by omega)⟩) (fun E h1 q9 H locs hp hH hth => hp.elim) (fun r h1 H locs hp hH => ?_)
 obtain ⟨q, st, x, bv, fo, hqb, hq, hm, hF, hx2, hfo, hv, hJ2⟩ := hP r h1 hp
 refine W.widen (k := cells + 161) (n := slots + 7887) (room_le1 (a := rm_L_far.cells) (x := 2) rfl (by omega)) (room_le1 (a := rm_L_far.slots) (x := 12) rfl (by omega)) ?_
 subst hqb
 have hR := c_X12_far (l := l) (G := G) (h := h1) hq hF
 rw [hm] at hR
 have hroot := (oset_at (G := G) (st := st) (h := h1) hq (Nat.le_refl _) ohas_N).trans (congrArg some ocell_N)
 rw [hm] at hroot
 have hroot2 := (oset_at (G := G) (st := x) (h := h1) hq (Nat.le_refl _) ohas_N).trans (congrArg some ocell_N)
 refine lv_istore (lv' := [(5, .int r), (0, .ref bS), (1, .ref a), (2, .ref (q 53)), (3, .ref ao), (4, .int x4)]) X.x X.b (dk DL_law_14 41 rfl) hl (by decide) rfl (fun ls hl => ?_)
 replace hl : lv_has ls 8 [(0, .ref bS), (1, .ref a), (2, .ref (q 53)), (3, .ref ao), (4, .int x4), (5, .int r)] := lv_sub hl [1, 2, 3, 4, 5, 0] rfl
 refine lv_aload_n X.x X.b (dk DL_law_14 42 rfl) rfl (lv_at hl 2 rfl) ?_
 refine lv_aload_n X.x X.b (dk DL_law_14 43 rfl) rfl (lv_at hl 0 rfl) ?_
 refine lv_iload X.x X.b (dk DL_law_14 44 rfl) (lv_at hl 4 rfl) ?_
 refine lv_iconst (v := 1) X.x X.b (dk DL_law_14 45 rfl) (by decide) ?_
 refine lv_iadd X.x X.b (dk DL_law_14 46 rfl) ?_
 refine lw_sld X hH hX hbl hbA g1.1 g1.2 (dk DL_law_14 47 rfl) ?_
 refine lv_aload_n X.x X.b (dk DL_law_14 48 rfl) rfl (lv_at hl 0 rfl) ?_
 refine lv_iload X.x X.b (dk DL_law_14 49 rfl) (lv_at hl 4 rfl) ?_
 refine lv_iconst (v := 2) X.x X.b (dk DL_law_14 50 rfl) (by decide) ?_
 refine lv_iadd X.x X.b (dk DL_law_14 51 rfl) ?_
 refine lw_sld X hH hX hbl hbA g2.1 g2.2 (dk DL_law_14 52 rfl) ?_
 refine mr_ci0 hH ⟨rfl, rfl⟩ (mr_runV (As := [.int A1, .int A2]) (rest := []) X hH hR hroot OX12.1 kM_L_221 kI_X12_far kS_X12_far kN_X12 kC_X12_far hd_X12_far ⟨Nat.le_of_ble_eq_true rfl, Nat.le_of_ble_eq_true rfl⟩ rfl hl.1 (Nat.le_of_ble_eq_true rfl) (dk DL_law_14 53 rfl) ⟨room_le3 (c := cells + 161) (b := rm_X12_far.cells) (K := 601024) rfl hc, room_le3 (c := slots + 7887) (b := rm_X12_far.slots) (K := 7293034) rfl hs⟩) (fun r2 h2 H locs hp2 hH => ?_)
 replace hp2 : r2 = bv ∧ h2 = oset LX12 G q x h1 := hp2
 obtain ⟨e1, e2⟩ := hp2
 subst e2
 refine lv_istore (lv' := [(6, .int r2), (0, .ref bS), (1, .ref a), (2, .ref (q 53)), (3, .ref ao), (4, .int x4), (5, .int r)]) X.x X.b (dk DL_law_14 54 rfl) hl (by decide) rfl (fun ls hl => ?_)
 replace hl : lv_has ls 8 [(0, .ref bS), (1, .ref a), (2, .ref (q 53)), (3, .ref ao), (4, .int x4), (5, .int r), (6, .int r2)] := lv_sub hl [1, 2, 3, 4, 5, 6, 0] rfl
 refine lv_aload_n X.x X.b (dk DL_law_14 55 rfl) rfl (lv_at hl 2 rfl) ?_
 refine mr_ci0 hH ⟨rfl, rfl⟩ (mr_runV (As := []) (rest := []) X hH (c_X12_thrown (l := l) (G := G) (h := h1) hq (st := x) (x := x.1 2) rfl) hroot2 OX12.1 kM_L_128 kI_X12_thrown kS_X12_thrown kN_X12 kC_X12_thrown hd_X12_thrown ⟨Nat.le_of_ble_eq_true rfl, Nat.le_of_ble_eq_true rfl⟩ rfl hl.1 (Nat.le_of_ble_eq_true rfl) (dk DL_law_14 56 rfl) ⟨room_le3 (c := cells + 161) (b := rm_X12_thrown.cells) (K := 601024) rfl hc, room_le3 (c := slots + 7887) (b := rm_X12_thrown.slots) (K := 7293034) rfl hs⟩) (fun r3 h3 H locs hp3 hH => ?_)
 obtain ⟨e3, e4⟩ := hp3
 subst e4
 refine lv_iload X.x X.b (dk DL_law_14 57 rfl) (lv_at hl 5 rfl) ?_
 refine lv_icmp_eq (tgt := 1583) X.x X.b (dk DL_law_14 58 rfl) (by decide) (fun _ => ?_) (fun z => absurd (e3.trans hx2) z)
 refine lv_iload X.x X.b (dk DL_law_15 1 rfl) (lv_at hl 5 rfl) ?_
 refine lv_if_ne (tgt := 1600) X.x X.b (dk DL_law_15 2 rfl) (by decide) (fun c0 => ?_) (fun c0 => ?_)
 · refine lv_goto (tgt := 2497) X.x X.b (dk DL_law_15 12 rfl) (by decide) ?_
   exact kk _ _ _ _ hJ2 hH (lv_sub hl [0, 1, 2, 3, 4] rfl)
 · refine lv_aload_n X.x X.b (dk DL_law_15 3 rfl) rfl (lv_at hl 3 rfl) ?_
   refine lv_iconst (v := 0) X.x X.b (dk DL_law_15 4 rfl) (by decide) ?_
   have hr0 : r = 0 := by first | exact c0 | exact Decidable.not_not.mp c0
   refine mr_lald X hH hfo (show vp_in (nI 0) 1 from vp_in_nI (by decide) (by decide)) (dk DL_law_15 5 rfl) ?_
   rw [show ((0 : Int32).toNatClampNeg) = 0 from rfl]
   refine lv_iload X.x X.b (dk DL_law_15 6 rfl) (lv_at hl 6 rfl) ?_
   refine lv_i2l X.x X.b (dk DL_law_15 7 rfl) rfl ?_
   refine W.lcmp X.x X.b (dk DL_law_15 8 rfl) ?_
   refine lv_if_eq (tgt := 1600) X.x X.b (dk DL_law_15 9 rfl) (by decide) (fun _ => ?_) (fun z => absurd ((lg_cmp_eq _ _).mpr ((hv hr0).trans (by rw [e1]))) z)
   refine lv_goto (tgt := 2497) X.x X.b (dk DL_law_15 12 rfl) (by decide) ?_
   exact kk _ _ _ _ hJ2 hH (lv_sub hl [0, 1, 2, 3, 4] rfl)
set_option maxHeartbeats 4000000 in
set_option maxRecDepth 100000 in
theorem lc_widest {p : Program} {l : Launch} {e : Env} {s : State} {m : MethodId} {args : Array Value} {below : List Frame} {meth : Method} {c : Code} {G : mG} {L : Nat} {xs : Nat → Int32} {bS a b ao : Nat} (X : mX G p m c code 8 s args RL) (hX : va_X bS L xs s s.heap) (hbl : bS < s.heap.size) (hbA : ¬ mA G bS) {J : mM → Prop} (hJa : ∀ m, J m → ∃ fs, m a = some (.inr (LX11.1, fs))) (hAg : Ag_widest l G J a b ao) {x4 A1 A2 A3 A4 A5 : Int32} (g1 : vp_in (x4 + 1) L ∧ xs (x4 + 1).toNatClampNeg = A1) (g2 : vp_in (x4 + 2) L ∧ xs (x4 + 2).toNatClampNeg = A2) (g3 : vp_in (x4 + 3) L ∧ xs (x4 + 3).toNatClampNeg = A3) (g4 : vp_in (x4 + 4) L ∧ xs (x4 + 4).toNatClampNeg = A4) (g5 : vp_in (x4 + 5) L ∧ xs (x4 + 5).toNatClampNeg = A5) {mm : mM} {H : Heap} {locs : List Loc} {ls : Array Slot} (hJ : J mm) (hH : mH G mm s.heap H locs) (hl : lv_has ls 8 [(0, .ref bS), (1, .ref a), (2, .ref b), (3, .ref ao), (4, .int x4)]) {cells slots : Nat} (hc : cells + 161 ≤ 601024) (hs : slots + 7887 ≤ 7293034) {Q : State → Prop}
    (kk : ∀ (mm : mM) (H : Heap) (locs : List Loc) (ls : Array Slot), J mm → mH G mm s.heap H locs → lv_has ls 8 [(0, .ref bS), (1, .ref a), (2, .ref b), (3, .ref ao), (4, .int x4)] → W p l e room_1 s m args below meth c H locs (cells + 161) (slots + 7887) Q (F0 m 2497 ls [])) :
    W p l e room_1 s m args below meth c H locs cells slots Q (F0 m 1603 ls []) := by
 refine lv_aload_n X.x X.b (dk DL_law_15 13 rfl) rfl (lv_at hl 1 rfl) ?_
 obtain ⟨Pm, hC, hP⟩ := hAg mm  hJ
 obtain ⟨fs, ha⟩ := hJa mm hJ
 refine mr_ci hH (mr_runV (As := []) (rest := []) X hH hC ha OX11.1 kM_L_222 kI_X11_widest kS_X11_widest kN_X11 kC_X11_widest hd_X11_widest ⟨Nat.le_of_ble_eq_true rfl, Nat.le_of_ble_eq_true rfl⟩ rfl hl.1 (Nat.le_of_ble_eq_true rfl) (dk DL_law_15 14 rfl) ⟨room_le1 (a := rm_X11_widest.cells) (x := 0) (K := 601024) rfl (by omega), room_le1 (a := rm_X11_widest.slots) (x := 0) (K := 7293034) rfl (by omega)⟩) (fun r h1 H locs hp hH => ?_)
 obtain ⟨q, st, x, hqb, hq, hm, hF, hJ2⟩ := hP r h1 hp
 refine W.widen (k := cells + 161) (n := slots + 7887) (room_le1 (a := rm_X11_widest.cells) (x := 0) rfl (by omega)) (room_le1 (a := rm_X11_widest.slots) (x := 0) rfl (by omega)) ?_
 subst hqb
 have hR := c_X12_widest (l := l) (G := G) (h := h1) hq hF
 rw [hm] at hR
 have hroot := (oset_at (G := G) (st := st) (h := h1) hq (Nat.le_refl _) ohas_N).trans (congrArg some ocell_N)
 rw [hm] at hroot
 have hroot2 := (oset_at (G := G) (st := x) (h := h1) hq (Nat.le_refl _) ohas_N).trans (congrArg some ocell_N)
 refine lv_aload_n X.x X.b (dk DL_law_15 15 rfl) rfl (lv_at hl 2 rfl) ?_
 refine mr_ci0 hH ⟨rfl, rfl⟩ (mr_runV (As := []) (rest := [.int r]) X hH hR hroot OX12.1 kM_L_225 kI_X12_widest kS_X12_widest kN_X12 kC_X12_widest hd_X12_widest ⟨Nat.le_of_ble_eq_true rfl, Nat.le_of_ble_eq_true rfl⟩ rfl hl.1 (Nat.le_of_ble_eq_true rfl) (dk DL_law_15 16 rfl) ⟨room_le3 (c := cells + 161) (b := rm_X12_widest.cells) (K := 601024) rfl hc, room_le3 (c := slots + 7887) (b := rm_X12_widest.slots) (K := 7293034) rfl hs⟩) (fun r2 h2 H locs hp2 hH => ?_)
 replace hp2 : r2 = r ∧ h2 = oset LX12 G q x h1 := hp2
 obtain ⟨e1, e2⟩ := hp2
 subst e2
 refine lv_icmp_eq (tgt := 2497) X.x X.b (dk DL_law_15 17 rfl) (by decide) (fun _ => ?_) (fun z => absurd e1.symm z)
 exact kk _ _ _ _ hJ2 hH (lv_sub hl [0, 1, 2, 3, 4] rfl)
set_option maxHeartbeats 4000000 in
set_option maxRecDepth 100000 in
theorem lc_ring {p : Program} {l : Launch} {e : Env} {s : State} {m : MethodId} {args : Array Value} {below : List Frame} {meth : Method} {c : Code} {G : mG} {L : Nat} {xs : Nat → Int32} {bS a b ao : Nat} (X : mX G p m c code 8 s args RL) (hX : va_X bS L xs s s.heap) (hbl : bS < s.heap.size) (hbA : ¬ mA G bS) {J : mM → Prop} (hJa : ∀ m, J m → ∃ fs, m a = some (.inr (LX11.1, fs))) (hAg : Ag_ring l G J a b ao) {x4 A1 A2 A3 A4 A5 : Int32} (g1 : vp_in (x4 + 1) L ∧ xs (x4 + 1).toNatClampNeg = A1) (g2 : vp_in (x4 + 2) L ∧ xs (x4 + 2).toNatClampNeg = A2) (g3 : vp_in (x4 + 3) L ∧ xs (x4 + 3).toNatClampNeg = A3) (g4 : vp_in (x4 + 4) L ∧ xs (x4 + 4).toNatClampNeg = A4) (g5 : vp_in (x4 + 5) L ∧ xs (x4 + 5).toNatClampNeg = A5) {mm : mM} {H : Heap} {locs : List Loc} {ls : Array Slot} (hJ : J mm) (hH : mH G mm s.heap H locs) (hl : lv_has ls 8 [(0, .ref bS), (1, .ref a), (2, .ref b), (3, .ref ao), (4, .int x4)]) {cells slots : Nat} (hc : cells + 161 ≤ 601024) (hs : slots + 7887 ≤ 7293034) {Q : State → Prop}
    (kk : ∀ (mm : mM) (H : Heap) (locs : List Loc) (ls : Array Slot), J mm → mH G mm s.heap H locs → lv_has ls 8 [(0, .ref bS), (1, .ref a), (2, .ref b), (3, .ref ao), (4, .int x4)] → W p l e room_1 s m args below meth c H locs (cells + 161) (slots + 7887) Q (F0 m 2497 ls [])) :
    W p l e room_1 s m args below meth c H locs cells slots Q (F0 m 1616 ls []) := by
 refine lv_aload_n X.x X.b (dk DL_law_15 20 rfl) rfl (lv_at hl 1 rfl) ?_
 obtain ⟨Pm, hC, hP⟩ := hAg mm  hJ
 obtain ⟨fs, ha⟩ := hJa mm hJ
 refine mr_ci hH (mr_runV (As := []) (rest := []) X hH hC ha OX11.1 kM_L_226 kI_X11_ring kS_X11_ring kN_X11 kC_X11_ring hd_X11_ring ⟨Nat.le_of_ble_eq_true rfl, Nat.le_of_ble_eq_true rfl⟩ rfl hl.1 (Nat.le_of_ble_eq_true rfl) (dk DL_law_15 21 rfl) ⟨room_le1 (a := rm_X11_ring.cells) (x := 0) (K := 601024) rfl (by omega), room_le1 (a := rm_X11_ring.slots) (x := 0) (K := 7293034) rfl (by omega)⟩) (fun r h1 H locs hp hH => ?_)
 obtain ⟨q, st, x, hqb, hq, hm, hF, hJ2⟩ := hP r h1 hp
 refine W.widen (k := cells + 161) (n := slots + 7887) (room_le1 (a := rm_X11_ring.cells) (x := 0) rfl (by omega)) (room_le1 (a := rm_X11_ring.slots) (x := 0) rfl (by omega)) ?_
 subst hqb
 have hR := c_X12_ring (l := l) (G := G) (h := h1) hq hF
 rw [hm] at hR
 have hroot := (oset_at (G := G) (st := st) (h := h1) hq (Nat.le_refl _) ohas_N).trans (congrArg some ocell_N)
 rw [hm] at hroot
 have hroot2 := (oset_at (G := G) (st := x) (h := h1) hq (Nat.le_refl _) ohas_N).trans (congrArg some ocell_N)
 refine lv_aload_n X.x X.b (dk DL_law_15 22 rfl) rfl (lv_at hl 2 rfl) ?_
 refine mr_ci0 hH ⟨rfl, rfl⟩ (mr_runV (As := []) (rest := [.int r]) X hH hR hroot OX12.1 kM_L_229 kI_X12_ring kS_X12_ring kN_X12 kC_X12_ring hd_X12_ring ⟨Nat.le_of_ble_eq_true rfl, Nat.le_of_ble_eq_true rfl⟩ rfl hl.1 (Nat.le_of_ble_eq_true rfl) (dk DL_law_15 23 rfl) ⟨room_le3 (c := cells + 161) (b := rm_X12_ring.cells) (K := 601024) rfl hc, room_le3 (c := slots + 7887) (b := rm_X12_ring.slots) (K := 7293034) rfl hs⟩) (fun r2 h2 H locs hp2 hH => ?_)
 replace hp2 : r2 = r ∧ h2 = oset LX12 G q x h1 := hp2
 obtain ⟨e1, e2⟩ := hp2
 subst e2
 refine lv_icmp_eq (tgt := 2497) X.x X.b (dk DL_law_15 24 rfl) (by decide) (fun _ => ?_) (fun z => absurd e1.symm z)
 exact kk _ _ _ _ hJ2 hH (lv_sub hl [0, 1, 2, 3, 4] rfl)
set_option maxHeartbeats 4000000 in
set_option maxRecDepth 100000 in
theorem lc_parts {p : Program} {l : Launch} {e : Env} {s : State} {m : MethodId} {args : Array Value} {below : List Frame} {meth : Method} {c : Code} {G : mG} {L : Nat} {xs : Nat → Int32} {bS a b ao : Nat} (X : mX G p m c code 8 s args RL) (hX : va_X bS L xs s s.heap) (hbl : bS < s.heap.size) (hbA : ¬ mA G bS) {J : mM → Prop} (hJa : ∀ m, J m → ∃ fs, m a = some (.inr (LX11.1, fs))) (hAg : Ag_parts l G J a b ao) {x4 A1 A2 A3 A4 A5 : Int32} (g1 : vp_in (x4 + 1) L ∧ xs (x4 + 1).toNatClampNeg = A1) (g2 : vp_in (x4 + 2) L ∧ xs (x4 + 2).toNatClampNeg = A2) (g3 : vp_in (x4 + 3) L ∧ xs (x4 + 3).toNatClampNeg = A3) (g4 : vp_in (x4 + 4) L ∧ xs (x4 + 4).toNatClampNeg = A4) (g5 : vp_in (x4 + 5) L ∧ xs (x4 + 5).toNatClampNeg = A5) {mm : mM} {H : Heap} {locs : List Loc} {ls : Array Slot} (hJ : J mm) (hH : mH G mm s.heap H locs) (hl : lv_has ls 8 [(0, .ref bS), (1, .ref a), (2, .ref b), (3, .ref ao), (4, .int x4)]) {cells slots : Nat} (hc : cells + 161 ≤ 601024) (hs : slots + 7887 ≤ 7293034) {Q : State → Prop}
    (kk : ∀ (mm : mM) (H : Heap) (locs : List Loc) (ls : Array Slot), J mm → mH G mm s.heap H locs → lv_has ls 8 [(0, .ref bS), (1, .ref a), (2, .ref b), (3, .ref ao), (4, .int x4)] → W p l e room_1 s m args below meth c H locs (cells + 161) (slots + 7887) Q (F0 m 2497 ls [])) :
    W p l e room_1 s m args below meth c H locs cells slots Q (F0 m 1629 ls []) := by
 refine lv_aload_n X.x X.b (dk DL_law_15 27 rfl) rfl (lv_at hl 1 rfl) ?_
 obtain ⟨Pm, hC, hP⟩ := hAg mm  hJ
 obtain ⟨fs, ha⟩ := hJa mm hJ
 refine mr_ci hH (mr_runV (As := []) (rest := []) X hH hC ha OX11.1 kM_L_230 kI_X11_parts kS_X11_parts kN_X11 kC_X11_parts hd_X11_parts ⟨Nat.le_of_ble_eq_true rfl, Nat.le_of_ble_eq_true rfl⟩ rfl hl.1 (Nat.le_of_ble_eq_true rfl) (dk DL_law_15 28 rfl) ⟨room_le1 (a := rm_X11_parts.cells) (x := 0) (K := 601024) rfl (by omega), room_le1 (a := rm_X11_parts.slots) (x := 0) (K := 7293034) rfl (by omega)⟩) (fun r h1 H locs hp hH => ?_)
 obtain ⟨q, st, x, hqb, hq, hm, hF, hJ2⟩ := hP r h1 hp
 refine W.widen (k := cells + 161) (n := slots + 7887) (room_le1 (a := rm_X11_parts.cells) (x := 0) rfl (by omega)) (room_le1 (a := rm_X11_parts.slots) (x := 0) rfl (by omega)) ?_
 subst hqb
 have hR := c_X12_parts (l := l) (G := G) (h := h1) hq hF
 rw [hm] at hR
 have hroot := (oset_at (G := G) (st := st) (h := h1) hq (Nat.le_refl _) ohas_N).trans (congrArg some ocell_N)
 rw [hm] at hroot
 have hroot2 := (oset_at (G := G) (st := x) (h := h1) hq (Nat.le_refl _) ohas_N).trans (congrArg some ocell_N)
 refine lv_aload_n X.x X.b (dk DL_law_15 29 rfl) rfl (lv_at hl 2 rfl) ?_
 refine mr_ci0 hH ⟨rfl, rfl⟩ (mr_runV (As := []) (rest := [.int r]) X hH hR hroot OX12.1 kM_L_233 kI_X12_parts kS_X12_parts kN_X12 kC_X12_parts hd_X12_parts ⟨Nat.le_of_ble_eq_true rfl, Nat.le_of_ble_eq_true rfl⟩ rfl hl.1 (Nat.le_of_ble_eq_true rfl) (dk DL_law_15 30 rfl) ⟨room_le3 (c := cells + 161) (b := rm_X12_parts.cells) (K := 601024) rfl hc, room_le3 (c := slots + 7887) (b := rm_X12_parts.slots) (K := 7293034) rfl hs⟩) (fun r2 h2 H locs hp2 hH => ?_)
 replace hp2 : r2 = r ∧ h2 = oset LX12 G q x h1 := hp2
 obtain ⟨e1, e2⟩ := hp2
 subst e2
 refine lv_icmp_eq (tgt := 2497) X.x X.b (dk DL_law_15 31 rfl) (by decide) (fun _ => ?_) (fun z => absurd e1.symm z)
 exact kk _ _ _ _ hJ2 hH (lv_sub hl [0, 1, 2, 3, 4] rfl)
set_option maxHeartbeats 4000000 in
set_option maxRecDepth 100000 in
theorem lc_rank {p : Program} {l : Launch} {e : Env} {s : State} {m : MethodId} {args : Array Value} {below : List Frame} {meth : Method} {c : Code} {G : mG} {L : Nat} {xs : Nat → Int32} {bS a b ao : Nat} (X : mX G p m c code 8 s args RL) (hX : va_X bS L xs s s.heap) (hbl : bS < s.heap.size) (hbA : ¬ mA G bS) {J : mM → Prop} (hJa : ∀ m, J m → ∃ fs, m a = some (.inr (LX11.1, fs))) (hAg : Ag_rank l G J a b ao) {x4 A1 A2 A3 A4 A5 : Int32} (g1 : vp_in (x4 + 1) L ∧ xs (x4 + 1).toNatClampNeg = A1) (g2 : vp_in (x4 + 2) L ∧ xs (x4 + 2).toNatClampNeg = A2) (g3 : vp_in (x4 + 3) L ∧ xs (x4 + 3).toNatClampNeg = A3) (g4 : vp_in (x4 + 4) L ∧ xs (x4 + 4).toNatClampNeg = A4) (g5 : vp_in (x4 + 5) L ∧ xs (x4 + 5).toNatClampNeg = A5) {mm : mM} {H : Heap} {locs : List Loc} {ls : Array Slot} (hJ : J mm) (hH : mH G mm s.heap H locs) (hl : lv_has ls 8 [(0, .ref bS), (1, .ref a), (2, .ref b), (3, .ref ao), (4, .int x4)]) {cells slots : Nat} (hc : cells + 161 ≤ 601024) (hs : slots + 7887 ≤ 7293034) {Q : State → Prop}
    (kk : ∀ (mm : mM) (H : Heap) (locs : List Loc) (ls : Array Slot), J mm → mH G mm s.heap H locs → lv_has ls 8 [(0, .ref bS), (1, .ref a), (2, .ref b), (3, .ref ao), (4, .int x4)] → W p l e room_1 s m args below meth c H locs (cells + 161) (slots + 7887) Q (F0 m 2497 ls [])) :
    W p l e room_1 s m args below meth c H locs cells slots Q (F0 m 1642 ls []) := by
 refine lv_aload_n X.x X.b (dk DL_law_15 34 rfl) rfl (lv_at hl 1 rfl) ?_
 refine lv_aload_n X.x X.b (dk DL_law_15 35 rfl) rfl (lv_at hl 0 rfl) ?_
 refine lv_iload X.x X.b (dk DL_law_15 36 rfl) (lv_at hl 4 rfl) ?_
 refine lv_iconst (v := 1) X.x X.b (dk DL_law_15 37 rfl) (by decide) ?_
 refine lv_iadd X.x X.b (dk DL_law_15 38 rfl) ?_
 refine lw_sld X hH hX hbl hbA g1.1 g1.2 (dk DL_law_15 39 rfl) ?_
 refine lv_aload_n X.x X.b (dk DL_law_15 40 rfl) rfl (lv_at hl 3 rfl) ?_
 obtain ⟨Pm, hC, hP⟩ := hAg mm A1 hJ
 refine mr_xi hH (mr_hrunS (As := [.ref a, .int A1, .ref ao]) (rest := []) X hH hC kM_L_234 kT_L_rank kN_L kW_L_rank hd_L_rank ⟨Nat.le_of_ble_eq_true rfl, Nat.le_of_ble_eq_true rfl⟩ rfl hl.1 (Nat.le_of_ble_eq_true rfl) (dk DL_law_15 41 rfl) ⟨room_le1 (a := rm_L_rank.cells) (x := 1) (K := 601024) rfl (by omega), room_le1 (a := rm_L_rank.slots) (x := 6) (K := 7293034) rfl (by omega)⟩) (fun E h1 q9 H locs hp hH hth => hp.elim) (fun r h1 H locs hp hH => ?_)
 obtain ⟨q, st, x, bv, fo, hqb, hq, hm, hF, hx2, hfo, hv, hJ2⟩ := hP r h1 hp
 refine W.widen (k := cells + 161) (n := slots + 7887) (room_le1 (a := rm_L_rank.cells) (x := 1) rfl (by omega)) (room_le1 (a := rm_L_rank.slots) (x := 6) rfl (by omega)) ?_
 subst hqb
 have hR := c_X12_rank (l := l) (G := G) (h := h1) hq hF
 rw [hm] at hR
 have hroot := (oset_at (G := G) (st := st) (h := h1) hq (Nat.le_refl _) ohas_N).trans (congrArg some ocell_N)
 rw [hm] at hroot
 have hroot2 := (oset_at (G := G) (st := x) (h := h1) hq (Nat.le_refl _) ohas_N).trans (congrArg some ocell_N)
 refine lv_istore (lv' := [(5, .int r), (0, .ref bS), (1, .ref a), (2, .ref (q 53)), (3, .ref ao), (4, .int x4)]) X.x X.b (dk DL_law_15 42 rfl) hl (by decide) rfl (fun ls hl => ?_)
 replace hl : lv_has ls 8 [(0, .ref bS), (1, .ref a), (2, .ref (q 53)), (3, .ref ao), (4, .int x4), (5, .int r)] := lv_sub hl [1, 2, 3, 4, 5, 0] rfl
 refine lv_aload_n X.x X.b (dk DL_law_15 43 rfl) rfl (lv_at hl 2 rfl) ?_
 refine lv_aload_n X.x X.b (dk DL_law_15 44 rfl) rfl (lv_at hl 0 rfl) ?_
 refine lv_iload X.x X.b (dk DL_law_15 45 rfl) (lv_at hl 4 rfl) ?_
 refine lv_iconst (v := 1) X.x X.b (dk DL_law_15 46 rfl) (by decide) ?_
 refine lv_iadd X.x X.b (dk DL_law_15 47 rfl) ?_
 refine lw_sld X hH hX hbl hbA g1.1 g1.2 (dk DL_law_15 48 rfl) ?_
 refine mr_ci0 hH ⟨rfl, rfl⟩ (mr_runV (As := [.int A1]) (rest := []) X hH hR hroot OX12.1 kM_L_236 kI_X12_rank kS_X12_rank kN_X12 kC_X12_rank hd_X12_rank ⟨Nat.le_of_ble_eq_true rfl, Nat.le_of_ble_eq_true rfl⟩ rfl hl.1 (Nat.le_of_ble_eq_true rfl) (dk DL_law_15 49 rfl) ⟨room_le3 (c := cells + 161) (b := rm_X12_rank.cells) (K := 601024) rfl hc, room_le3 (c := slots + 7887) (b := rm_X12_rank.slots) (K := 7293034) rfl hs⟩) (fun r2 h2 H locs hp2 hH => ?_)
 replace hp2 : r2 = bv ∧ h2 = oset LX12 G q x h1 := hp2
 obtain ⟨e1, e2⟩ := hp2
 subst e2
 refine lv_istore (lv' := [(6, .int r2), (0, .ref bS), (1, .ref a), (2, .ref (q 53)), (3, .ref ao), (4, .int x4), (5, .int r)]) X.x X.b (dk DL_law_15 50 rfl) hl (by decide) rfl (fun ls hl => ?_)
 replace hl : lv_has ls 8 [(0, .ref bS), (1, .ref a), (2, .ref (q 53)), (3, .ref ao), (4, .int x4), (5, .int r), (6, .int r2)] := lv_sub hl [1, 2, 3, 4, 5, 6, 0] rfl
 refine lv_aload_n X.x X.b (dk DL_law_15 51 rfl) rfl (lv_at hl 2 rfl) ?_
 refine mr_ci0 hH ⟨rfl, rfl⟩ (mr_runV (As := []) (rest := []) X hH (c_X12_thrown (l := l) (G := G) (h := h1) hq (st := x) (x := x.1 2) rfl) hroot2 OX12.1 kM_L_128 kI_X12_thrown kS_X12_thrown kN_X12 kC_X12_thrown hd_X12_thrown ⟨Nat.le_of_ble_eq_true rfl, Nat.le_of_ble_eq_true rfl⟩ rfl hl.1 (Nat.le_of_ble_eq_true rfl) (dk DL_law_15 52 rfl) ⟨room_le3 (c := cells + 161) (b := rm_X12_thrown.cells) (K := 601024) rfl hc, room_le3 (c := slots + 7887) (b := rm_X12_thrown.slots) (K := 7293034) rfl hs⟩) (fun r3 h3 H locs hp3 hH => ?_)
 obtain ⟨e3, e4⟩ := hp3
 subst e4
 refine lv_iload X.x X.b (dk DL_law_15 53 rfl) (lv_at hl 5 rfl) ?_
 refine lv_icmp_eq (tgt := 1678) X.x X.b (dk DL_law_15 54 rfl) (by decide) (fun _ => ?_) (fun z => absurd (e3.trans hx2) z)
 refine lv_iload X.x X.b (dk DL_law_15 57 rfl) (lv_at hl 5 rfl) ?_
 refine lv_if_ne (tgt := 1695) X.x X.b (dk DL_law_15 58 rfl) (by decide) (fun c0 => ?_) (fun c0 => ?_)
 · refine lv_goto (tgt := 2497) X.x X.b (dk DL_law_16 8 rfl) (by decide) ?_
   exact kk _ _ _ _ hJ2 hH (lv_sub hl [0, 1, 2, 3, 4] rfl)
 · refine lv_aload_n X.x X.b (dk DL_law_15 59 rfl) rfl (lv_at hl 3 rfl) ?_
   refine lv_iconst (v := 0) X.x X.b (dk DL_law_16 0 rfl) (by decide) ?_
   have hr0 : r = 0 := by first | exact c0 | exact Decidable.not_not.mp c0
   refine mr_lald X hH hfo (show vp_in (nI 0) 1 from vp_in_nI (by decide) (by decide)) (dk DL_law_16 1 rfl) ?_
   rw [show ((0 : Int32).toNatClampNeg) = 0 from rfl]
   refine lv_iload X.x X.b (dk DL_law_16 2 rfl) (lv_at hl 6 rfl) ?_
   refine lv_i2l X.x X.b (dk DL_law_16 3 rfl) rfl ?_
   refine W.lcmp X.x X.b (dk DL_law_16 4 rfl) ?_
   refine lv_if_eq (tgt := 1695) X.x X.b (dk DL_law_16 5 rfl) (by decide) (fun _ => ?_) (fun z => absurd ((lg_cmp_eq _ _).mpr ((hv hr0).trans (by rw [e1]))) z)
   refine lv_goto (tgt := 2497) X.x X.b (dk DL_law_16 8 rfl) (by decide) ?_
   exact kk _ _ _ _ hJ2 hH (lv_sub hl [0, 1, 2, 3, 4] rfl)
set_option maxHeartbeats 4000000 in
set_option maxRecDepth 100000 in
theorem lc_code {p : Program} {l : Launch} {e : Env} {s : State} {m : MethodId} {args : Array Value} {below : List Frame} {meth : Method} {c : Code} {G : mG} {L : Nat} {xs : Nat → Int32} {bS a b ao : Nat} (X : mX G p m c code 8 s args RL) (hX : va_X bS L xs s s.heap) (hbl : bS < s.heap.size) (hbA : ¬ mA G bS) {J : mM → Prop} (hJa : ∀ m, J m → ∃ fs, m a = some (.inr (LX11.1, fs))) (hAg : Ag_code l G J a b ao) {x4 A1 A2 A3 A4 A5 : Int32} (g1 : vp_in (x4 + 1) L ∧ xs (x4 + 1).toNatClampNeg = A1) (g2 : vp_in (x4 + 2) L ∧ xs (x4 + 2).toNatClampNeg = A2) (g3 : vp_in (x4 + 3) L ∧ xs (x4 + 3).toNatClampNeg = A3) (g4 : vp_in (x4 + 4) L ∧ xs (x4 + 4).toNatClampNeg = A4) (g5 : vp_in (x4 + 5) L ∧ xs (x4 + 5).toNatClampNeg = A5) {mm : mM} {H : Heap} {locs : List Loc} {ls : Array Slot} (hJ : J mm) (hH : mH G mm s.heap H locs) (hl : lv_has ls 8 [(0, .ref bS), (1, .ref a), (2, .ref b), (3, .ref ao), (4, .int x4)]) {cells slots : Nat} (hc : cells + 161 ≤ 601024) (hs : slots + 7887 ≤ 7293034) {Q : State → Prop}
    (kk : ∀ (mm : mM) (H : Heap) (locs : List Loc) (ls : Array Slot), J mm → mH G mm s.heap H locs → lv_has ls 8 [(0, .ref bS), (1, .ref a), (2, .ref b), (3, .ref ao), (4, .int x4)] → W p l e room_1 s m args below meth c H locs (cells + 161) (slots + 7887) Q (F0 m 2497 ls [])) :
    W p l e room_1 s m args below meth c H locs cells slots Q (F0 m 1698 ls []) := by
 refine lv_aload_n X.x X.b (dk DL_law_16 9 rfl) rfl (lv_at hl 1 rfl) ?_
 refine lv_aload_n X.x X.b (dk DL_law_16 10 rfl) rfl (lv_at hl 0 rfl) ?_
 refine lv_iload X.x X.b (dk DL_law_16 11 rfl) (lv_at hl 4 rfl) ?_
 refine lv_iconst (v := 1) X.x X.b (dk DL_law_16 12 rfl) (by decide) ?_
 refine lv_iadd X.x X.b (dk DL_law_16 13 rfl) ?_
 refine lw_sld X hH hX hbl hbA g1.1 g1.2 (dk DL_law_16 14 rfl) ?_
 refine lv_aload_n X.x X.b (dk DL_law_16 15 rfl) rfl (lv_at hl 3 rfl) ?_
 obtain ⟨Pm, hC, hP⟩ := hAg mm A1 hJ
 refine mr_xi hH (mr_hrunS (As := [.ref a, .int A1, .ref ao]) (rest := []) X hH hC kM_L_237 kT_L_code kN_L kW_L_code hd_L_code ⟨Nat.le_of_ble_eq_true rfl, Nat.le_of_ble_eq_true rfl⟩ rfl hl.1 (Nat.le_of_ble_eq_true rfl) (dk DL_law_16 16 rfl) ⟨room_le1 (a := rm_L_code.cells) (x := 1) (K := 601024) rfl (by omega), room_le1 (a := rm_L_code.slots) (x := 6) (K := 7293034) rfl (by omega)⟩) (fun E h1 q9 H locs hp hH hth => hp.elim) (fun r h1 H locs hp hH => ?_)
 obtain ⟨q, st, x, bv, fo, hqb, hq, hm, hF, hx2, hfo, hv, hJ2⟩ := hP r h1 hp
 refine W.widen (k := cells + 161) (n := slots + 7887) (room_le1 (a := rm_L_code.cells) (x := 1) rfl (by omega)) (room_le1 (a := rm_L_code.slots) (x := 6) rfl (by omega)) ?_
 subst hqb
 have hR := c_X12_code (l := l) (G := G) (h := h1) hq hF
 rw [hm] at hR
 have hroot := (oset_at (G := G) (st := st) (h := h1) hq (Nat.le_refl _) ohas_N).trans (congrArg some ocell_N)
 rw [hm] at hroot
 have hroot2 := (oset_at (G := G) (st := x) (h := h1) hq (Nat.le_refl _) ohas_N).trans (congrArg some ocell_N)
 refine lv_istore (lv' := [(5, .int r), (0, .ref bS), (1, .ref a), (2, .ref (q 53)), (3, .ref ao), (4, .int x4)]) X.x X.b (dk DL_law_16 17 rfl) hl (by decide) rfl (fun ls hl => ?_)
 replace hl : lv_has ls 8 [(0, .ref bS), (1, .ref a), (2, .ref (q 53)), (3, .ref ao), (4, .int x4), (5, .int r)] := lv_sub hl [1, 2, 3, 4, 5, 0] rfl
 refine lv_aload_n X.x X.b (dk DL_law_16 18 rfl) rfl (lv_at hl 2 rfl) ?_
 refine lv_aload_n X.x X.b (dk DL_law_16 19 rfl) rfl (lv_at hl 0 rfl) ?_
 refine lv_iload X.x X.b (dk DL_law_16 20 rfl) (lv_at hl 4 rfl) ?_
 refine lv_iconst (v := 1) X.x X.b (dk DL_law_16 21 rfl) (by decide) ?_
 refine lv_iadd X.x X.b (dk DL_law_16 22 rfl) ?_
 refine lw_sld X hH hX hbl hbA g1.1 g1.2 (dk DL_law_16 23 rfl) ?_
 refine mr_ci0 hH ⟨rfl, rfl⟩ (mr_runV (As := [.int A1]) (rest := []) X hH hR hroot OX12.1 kM_L_239 kI_X12_code kS_X12_code kN_X12 kC_X12_code hd_X12_code ⟨Nat.le_of_ble_eq_true rfl, Nat.le_of_ble_eq_true rfl⟩ rfl hl.1 (Nat.le_of_ble_eq_true rfl) (dk DL_law_16 24 rfl) ⟨room_le3 (c := cells + 161) (b := rm_X12_code.cells) (K := 601024) rfl hc, room_le3 (c := slots + 7887) (b := rm_X12_code.slots) (K := 7293034) rfl hs⟩) (fun r2 h2 H locs hp2 hH => ?_)
 replace hp2 : r2 = bv ∧ h2 = oset LX12 G q x h1 := hp2
 obtain ⟨e1, e2⟩ := hp2
 subst e2
 refine lv_istore (lv' := [(6, .int r2), (0, .ref bS), (1, .ref a), (2, .ref (q 53)), (3, .ref ao), (4, .int x4), (5, .int r)]) X.x X.b (dk DL_law_16 25 rfl) hl (by decide) rfl (fun ls hl => ?_)
 replace hl : lv_has ls 8 [(0, .ref bS), (1, .ref a), (2, .ref (q 53)), (3, .ref ao), (4, .int x4), (5, .int r), (6, .int r2)] := lv_sub hl [1, 2, 3, 4, 5, 6, 0] rfl
 refine lv_aload_n X.x X.b (dk DL_law_16 26 rfl) rfl (lv_at hl 2 rfl) ?_
 refine mr_ci0 hH ⟨rfl, rfl⟩ (mr_runV (As := []) (rest := []) X hH (c_X12_thrown (l := l) (G := G) (h := h1) hq (st := x) (x := x.1 2) rfl) hroot2 OX12.1 kM_L_128 kI_X12_thrown kS_X12_thrown kN_X12 kC_X12_thrown hd_X12_thrown ⟨Nat.le_of_ble_eq_true rfl, Nat.le_of_ble_eq_true rfl⟩ rfl hl.1 (Nat.le_of_ble_eq_true rfl) (dk DL_law_16 27 rfl) ⟨room_le3 (c := cells + 161) (b := rm_X12_thrown.cells) (K := 601024) rfl hc, room_le3 (c := slots + 7887) (b := rm_X12_thrown.slots) (K := 7293034) rfl hs⟩) (fun r3 h3 H locs hp3 hH => ?_)
 obtain ⟨e3, e4⟩ := hp3
 subst e4
 refine lv_iload X.x X.b (dk DL_law_16 28 rfl) (lv_at hl 5 rfl) ?_
 refine lv_icmp_eq (tgt := 1734) X.x X.b (dk DL_law_16 29 rfl) (by decide) (fun _ => ?_) (fun z => absurd (e3.trans hx2) z)
 refine lv_iload X.x X.b (dk DL_law_16 32 rfl) (lv_at hl 5 rfl) ?_
 refine lv_if_ne (tgt := 1751) X.x X.b (dk DL_law_16 33 rfl) (by decide) (fun c0 => ?_) (fun c0 => ?_)
 · refine lv_goto (tgt := 2497) X.x X.b (dk DL_law_16 43 rfl) (by decide) ?_
   exact kk _ _ _ _ hJ2 hH (lv_sub hl [0, 1, 2, 3, 4] rfl)
 · refine lv_aload_n X.x X.b (dk DL_law_16 34 rfl) rfl (lv_at hl 3 rfl) ?_
   refine lv_iconst (v := 0) X.x X.b (dk DL_law_16 35 rfl) (by decide) ?_
   have hr0 : r = 0 := by first | exact c0 | exact Decidable.not_not.mp c0
   refine mr_lald X hH hfo (show vp_in (nI 0) 1 from vp_in_nI (by decide) (by decide)) (dk DL_law_16 36 rfl) ?_
   rw [show ((0 : Int32).toNatClampNeg) = 0 from rfl]
   refine lv_iload X.x X.b (dk DL_law_16 37 rfl) (lv_at hl 6 rfl) ?_
   refine lv_i2l X.x X.b (dk DL_law_16 38 rfl) rfl ?_
   refine W.lcmp X.x X.b (dk DL_law_16 39 rfl) ?_
   refine lv_if_eq (tgt := 1751) X.x X.b (dk DL_law_16 40 rfl) (by decide) (fun _ => ?_) (fun z => absurd ((lg_cmp_eq _ _).mpr ((hv hr0).trans (by rw [e1]))) z)
   refine lv_goto (tgt := 2497) X.x X.b (dk DL_law_16 43 rfl) (by decide) ?_
   exact kk _ _ _ _ hJ2 hH (lv_sub hl [0, 1, 2, 3, 4] rfl)
set_option maxHeartbeats 4000000 in
set_option maxRecDepth 100000 in
theorem lc_turnings {p : Program} {l : Launch} {e : Env} {s : State} {m : MethodId} {args : Array Value} {below : List Frame} {meth : Method} {c : Code} {G : mG} {L : Nat} {xs : Nat → Int32} {bS a b ao : Nat} (X : mX G p m c code 8 s args RL) (hX : va_X bS L xs s s.heap) (hbl : bS < s.heap.size) (hbA : ¬ mA G bS) {J : mM → Prop} (hJa : ∀ m, J m → ∃ fs, m a = some (.inr (LX11.1, fs))) (hAg : Ag_turnings l G J a b ao) {x4 A1 A2 A3 A4 A5 : Int32} (g1 : vp_in (x4 + 1) L ∧ xs (x4 + 1).toNatClampNeg = A1) (g2 : vp_in (x4 + 2) L ∧ xs (x4 + 2).toNatClampNeg = A2) (g3 : vp_in (x4 + 3) L ∧ xs (x4 + 3).toNatClampNeg = A3) (g4 : vp_in (x4 + 4) L ∧ xs (x4 + 4).toNatClampNeg = A4) (g5 : vp_in (x4 + 5) L ∧ xs (x4 + 5).toNatClampNeg = A5) {mm : mM} {H : Heap} {locs : List Loc} {ls : Array Slot} (hJ : J mm) (hH : mH G mm s.heap H locs) (hl : lv_has ls 8 [(0, .ref bS), (1, .ref a), (2, .ref b), (3, .ref ao), (4, .int x4)]) {cells slots : Nat} (hc : cells + 161 ≤ 601024) (hs : slots + 7887 ≤ 7293034) {Q : State → Prop}
    (kk : ∀ (mm : mM) (H : Heap) (locs : List Loc) (ls : Array Slot), J mm → mH G mm s.heap H locs → lv_has ls 8 [(0, .ref bS), (1, .ref a), (2, .ref b), (3, .ref ao), (4, .int x4)] → W p l e room_1 s m args below meth c H locs (cells + 161) (slots + 7887) Q (F0 m 2497 ls [])) :
    W p l e room_1 s m args below meth c H locs cells slots Q (F0 m 1754 ls []) := by
 refine lv_aload_n X.x X.b (dk DL_law_16 44 rfl) rfl (lv_at hl 1 rfl) ?_
 obtain ⟨Pm, hC, hP⟩ := hAg mm  hJ
 obtain ⟨fs, ha⟩ := hJa mm hJ
 refine mr_cl hH (mr_runV (As := []) (rest := []) X hH hC ha OX11.1 kM_L_240 kI_X11_turnings kS_X11_turnings kN_X11 kC_X11_turnings hd_X11_turnings ⟨Nat.le_of_ble_eq_true rfl, Nat.le_of_ble_eq_true rfl⟩ rfl hl.1 (Nat.le_of_ble_eq_true rfl) (dk DL_law_16 45 rfl) ⟨room_le1 (a := rm_X11_turnings.cells) (x := 0) (K := 601024) rfl (by omega), room_le1 (a := rm_X11_turnings.slots) (x := 0) (K := 7293034) rfl (by omega)⟩) (fun r h1 H locs hp hH => ?_)
 obtain ⟨q, st, x, hqb, hq, hm, hF, hJ2⟩ := hP r h1 hp
 refine W.widen (k := cells + 161) (n := slots + 7887) (room_le1 (a := rm_X11_turnings.cells) (x := 0) rfl (by omega)) (room_le1 (a := rm_X11_turnings.slots) (x := 0) rfl (by omega)) ?_
 subst hqb
 have hR := c_X12_turnings (l := l) (G := G) (h := h1) hq hF
 rw [hm] at hR
 have hroot := (oset_at (G := G) (st := st) (h := h1) hq (Nat.le_refl _) ohas_N).trans (congrArg some ocell_N)
 rw [hm] at hroot
 have hroot2 := (oset_at (G := G) (st := x) (h := h1) hq (Nat.le_refl _) ohas_N).trans (congrArg some ocell_N)
 refine lv_aload_n X.x X.b (dk DL_law_16 46 rfl) rfl (lv_at hl 2 rfl) ?_
 refine mr_cl0 hH ⟨rfl, rfl⟩ (mr_runV (As := []) (rest := [.long r]) X hH hR hroot OX12.1 kM_L_243 kI_X12_turnings kS_X12_turnings kN_X12 kC_X12_turnings hd_X12_turnings ⟨Nat.le_of_ble_eq_true rfl, Nat.le_of_ble_eq_true rfl⟩ rfl hl.1 (Nat.le_of_ble_eq_true rfl) (dk DL_law_16 47 rfl) ⟨room_le3 (c := cells + 161) (b := rm_X12_turnings.cells) (K := 601024) rfl hc, room_le3 (c := slots + 7887) (b := rm_X12_turnings.slots) (K := 7293034) rfl hs⟩) (fun r2 h2 H locs hp2 hH => ?_)
 replace hp2 : r2 = r ∧ h2 = oset LX12 G q x h1 := hp2
 obtain ⟨e1, e2⟩ := hp2
 subst e2
 refine W.lcmp X.x X.b (dk DL_law_16 48 rfl) ?_
 refine lv_if_eq (tgt := 2497) X.x X.b (dk DL_law_16 49 rfl) (by decide) (fun _ => ?_) (fun z => absurd ((lg_cmp_eq _ _).mpr e1.symm) z)
 exact kk _ _ _ _ hJ2 hH (lv_sub hl [0, 1, 2, 3, 4] rfl)
set_option maxHeartbeats 4000000 in
set_option maxRecDepth 100000 in
theorem lc_orbit {p : Program} {l : Launch} {e : Env} {s : State} {m : MethodId} {args : Array Value} {below : List Frame} {meth : Method} {c : Code} {G : mG} {L : Nat} {xs : Nat → Int32} {bS a b ao : Nat} (X : mX G p m c code 8 s args RL) (hX : va_X bS L xs s s.heap) (hbl : bS < s.heap.size) (hbA : ¬ mA G bS) {J : mM → Prop} (hJa : ∀ m, J m → ∃ fs, m a = some (.inr (LX11.1, fs))) (hAg : Ag_orbit l G J a b ao) {x4 A1 A2 A3 A4 A5 : Int32} (g1 : vp_in (x4 + 1) L ∧ xs (x4 + 1).toNatClampNeg = A1) (g2 : vp_in (x4 + 2) L ∧ xs (x4 + 2).toNatClampNeg = A2) (g3 : vp_in (x4 + 3) L ∧ xs (x4 + 3).toNatClampNeg = A3) (g4 : vp_in (x4 + 4) L ∧ xs (x4 + 4).toNatClampNeg = A4) (g5 : vp_in (x4 + 5) L ∧ xs (x4 + 5).toNatClampNeg = A5) {mm : mM} {H : Heap} {locs : List Loc} {ls : Array Slot} (hJ : J mm) (hH : mH G mm s.heap H locs) (hl : lv_has ls 8 [(0, .ref bS), (1, .ref a), (2, .ref b), (3, .ref ao), (4, .int x4)]) {cells slots : Nat} (hc : cells + 161 ≤ 601024) (hs : slots + 7887 ≤ 7293034) {Q : State → Prop}
    (kk : ∀ (mm : mM) (H : Heap) (locs : List Loc) (ls : Array Slot), J mm → mH G mm s.heap H locs → lv_has ls 8 [(0, .ref bS), (1, .ref a), (2, .ref b), (3, .ref ao), (4, .int x4)] → W p l e room_1 s m args below meth c H locs (cells + 161) (slots + 7887) Q (F0 m 2497 ls [])) :
    W p l e room_1 s m args below meth c H locs cells slots Q (F0 m 1768 ls []) := by
 refine lv_aload_n X.x X.b (dk DL_law_16 52 rfl) rfl (lv_at hl 1 rfl) ?_
 refine lv_aload_n X.x X.b (dk DL_law_16 53 rfl) rfl (lv_at hl 0 rfl) ?_
 refine lv_iload X.x X.b (dk DL_law_16 54 rfl) (lv_at hl 4 rfl) ?_
 refine lv_iconst (v := 1) X.x X.b (dk DL_law_16 55 rfl) (by decide) ?_
 refine lv_iadd X.x X.b (dk DL_law_16 56 rfl) ?_
 refine lw_sld X hH hX hbl hbA g1.1 g1.2 (dk DL_law_16 57 rfl) ?_
 refine lv_aload_n X.x X.b (dk DL_law_16 58 rfl) rfl (lv_at hl 3 rfl) ?_
 obtain ⟨Pm, hC, hP⟩ := hAg mm A1 hJ
 refine mr_xi hH (mr_hrunS (As := [.ref a, .int A1, .ref ao]) (rest := []) X hH hC kM_L_244 kT_L_orbit kN_L kW_L_orbit hd_L_orbit ⟨Nat.le_of_ble_eq_true rfl, Nat.le_of_ble_eq_true rfl⟩ rfl hl.1 (Nat.le_of_ble_eq_true rfl) (dk DL_law_16 59 rfl) ⟨room_le1 (a := rm_L_orbit.cells) (x := 1) (K := 601024) rfl (by omega), room_le1 (a := rm_L_orbit.slots) (x := 6) (K := 7293034) rfl (by omega)⟩) (fun E h1 q9 H locs hp hH hth => hp.elim) (fun r h1 H locs hp hH => ?_)
 obtain ⟨q, st, x, bv, fo, hqb, hq, hm, hF, hx2, hfo, hv, hJ2⟩ := hP r h1 hp
 refine W.widen (k := cells + 161) (n := slots + 7887) (room_le1 (a := rm_L_orbit.cells) (x := 1) rfl (by omega)) (room_le1 (a := rm_L_orbit.slots) (x := 6) rfl (by omega)) ?_
 subst hqb
 have hR := c_X12_orbit (l := l) (G := G) (h := h1) hq hF
 rw [hm] at hR
 have hroot := (oset_at (G := G) (st := st) (h := h1) hq (Nat.le_refl _) ohas_N).trans (congrArg some ocell_N)
 rw [hm] at hroot
 have hroot2 := (oset_at (G := G) (st := x) (h := h1) hq (Nat.le_refl _) ohas_N).trans (congrArg some ocell_N)
 refine lv_istore (lv' := [(5, .int r), (0, .ref bS), (1, .ref a), (2, .ref (q 53)), (3, .ref ao), (4, .int x4)]) X.x X.b (dk DL_law_17 0 rfl) hl (by decide) rfl (fun ls hl => ?_)
 replace hl : lv_has ls 8 [(0, .ref bS), (1, .ref a), (2, .ref (q 53)), (3, .ref ao), (4, .int x4), (5, .int r)] := lv_sub hl [1, 2, 3, 4, 5, 0] rfl
 refine lv_aload_n X.x X.b (dk DL_law_17 1 rfl) rfl (lv_at hl 2 rfl) ?_
 refine lv_aload_n X.x X.b (dk DL_law_17 2 rfl) rfl (lv_at hl 0 rfl) ?_
 refine lv_iload X.x X.b (dk DL_law_17 3 rfl) (lv_at hl 4 rfl) ?_
 refine lv_iconst (v := 1) X.x X.b (dk DL_law_17 4 rfl) (by decide) ?_
 refine lv_iadd X.x X.b (dk DL_law_17 5 rfl) ?_
 refine lw_sld X hH hX hbl hbA g1.1 g1.2 (dk DL_law_17 6 rfl) ?_
 refine mr_cl0 hH ⟨rfl, rfl⟩ (mr_runV (As := [.int A1]) (rest := []) X hH hR hroot OX12.1 kM_L_246 kI_X12_orbit kS_X12_orbit kN_X12 kC_X12_orbit hd_X12_orbit ⟨Nat.le_of_ble_eq_true rfl, Nat.le_of_ble_eq_true rfl⟩ rfl hl.1 (Nat.le_of_ble_eq_true rfl) (dk DL_law_17 7 rfl) ⟨room_le3 (c := cells + 161) (b := rm_X12_orbit.cells) (K := 601024) rfl hc, room_le3 (c := slots + 7887) (b := rm_X12_orbit.slots) (K := 7293034) rfl hs⟩) (fun r2 h2 H locs hp2 hH => ?_)
 replace hp2 : r2 = bv ∧ h2 = oset LX12 G q x h1 := hp2
 obtain ⟨e1, e2⟩ := hp2
 subst e2
 refine lv_lstore (lv' := [(6, .long r2), (0, .ref bS), (1, .ref a), (2, .ref (q 53)), (3, .ref ao), (4, .int x4), (5, .int r)]) X.x X.b (dk DL_law_17 8 rfl) hl (by decide) rfl (fun ls hl => ?_)
 replace hl : lv_has ls 8 [(0, .ref bS), (1, .ref a), (2, .ref (q 53)), (3, .ref ao), (4, .int x4), (5, .int r), (6, .long r2)] := lv_sub hl [1, 2, 3, 4, 5, 6, 0] rfl
 refine lv_aload_n X.x X.b (dk DL_law_17 9 rfl) rfl (lv_at hl 2 rfl) ?_
 refine mr_ci0 hH ⟨rfl, rfl⟩ (mr_runV (As := []) (rest := []) X hH (c_X12_thrown (l := l) (G := G) (h := h1) hq (st := x) (x := x.1 2) rfl) hroot2 OX12.1 kM_L_128 kI_X12_thrown kS_X12_thrown kN_X12 kC_X12_thrown hd_X12_thrown ⟨Nat.le_of_ble_eq_true rfl, Nat.le_of_ble_eq_true rfl⟩ rfl hl.1 (Nat.le_of_ble_eq_true rfl) (dk DL_law_17 10 rfl) ⟨room_le3 (c := cells + 161) (b := rm_X12_thrown.cells) (K := 601024) rfl hc, room_le3 (c := slots + 7887) (b := rm_X12_thrown.slots) (K := 7293034) rfl hs⟩) (fun r3 h3 H locs hp3 hH => ?_)
 obtain ⟨e3, e4⟩ := hp3
 subst e4
 refine lv_iload X.x X.b (dk DL_law_17 11 rfl) (lv_at hl 5 rfl) ?_
 refine lv_icmp_eq (tgt := 1804) X.x X.b (dk DL_law_17 12 rfl) (by decide) (fun _ => ?_) (fun z => absurd (e3.trans hx2) z)
 refine lv_iload X.x X.b (dk DL_law_17 15 rfl) (lv_at hl 5 rfl) ?_
 refine lv_if_ne (tgt := 1820) X.x X.b (dk DL_law_17 16 rfl) (by decide) (fun c0 => ?_) (fun c0 => ?_)
 · refine lv_goto (tgt := 2497) X.x X.b (dk DL_law_17 25 rfl) (by decide) ?_
   exact kk _ _ _ _ hJ2 hH (lv_sub hl [0, 1, 2, 3, 4] rfl)
 · refine lv_aload_n X.x X.b (dk DL_law_17 17 rfl) rfl (lv_at hl 3 rfl) ?_
   refine lv_iconst (v := 0) X.x X.b (dk DL_law_17 18 rfl) (by decide) ?_
   have hr0 : r = 0 := by first | exact c0 | exact Decidable.not_not.mp c0
   refine mr_lald X hH hfo (show vp_in (nI 0) 1 from vp_in_nI (by decide) (by decide)) (dk DL_law_17 19 rfl) ?_
   rw [show ((0 : Int32).toNatClampNeg) = 0 from rfl]
   refine lv_lload X.x X.b (dk DL_law_17 20 rfl) (lv_at hl 6 rfl) ?_
   refine W.lcmp X.x X.b (dk DL_law_17 21 rfl) ?_
   refine lv_if_eq (tgt := 1820) X.x X.b (dk DL_law_17 22 rfl) (by decide) (fun _ => ?_) (fun z => absurd ((lg_cmp_eq _ _).mpr ((hv hr0).trans (by rw [e1]))) z)
   refine lv_goto (tgt := 2497) X.x X.b (dk DL_law_17 25 rfl) (by decide) ?_
   exact kk _ _ _ _ hJ2 hH (lv_sub hl [0, 1, 2, 3, 4] rfl)
set_option maxHeartbeats 4000000 in
set_option maxRecDepth 100000 in
theorem lc_like {p : Program} {l : Launch} {e : Env} {s : State} {m : MethodId} {args : Array Value} {below : List Frame} {meth : Method} {c : Code} {G : mG} {L : Nat} {xs : Nat → Int32} {bS a b ao : Nat} (X : mX G p m c code 8 s args RL) (hX : va_X bS L xs s s.heap) (hbl : bS < s.heap.size) (hbA : ¬ mA G bS) {J : mM → Prop} (hJa : ∀ m, J m → ∃ fs, m a = some (.inr (LX11.1, fs))) (hAg : Ag_like l G J a b ao) {x4 A1 A2 A3 A4 A5 : Int32} (g1 : vp_in (x4 + 1) L ∧ xs (x4 + 1).toNatClampNeg = A1) (g2 : vp_in (x4 + 2) L ∧ xs (x4 + 2).toNatClampNeg = A2) (g3 : vp_in (x4 + 3) L ∧ xs (x4 + 3).toNatClampNeg = A3) (g4 : vp_in (x4 + 4) L ∧ xs (x4 + 4).toNatClampNeg = A4) (g5 : vp_in (x4 + 5) L ∧ xs (x4 + 5).toNatClampNeg = A5) {mm : mM} {H : Heap} {locs : List Loc} {ls : Array Slot} (hJ : J mm) (hH : mH G mm s.heap H locs) (hl : lv_has ls 8 [(0, .ref bS), (1, .ref a), (2, .ref b), (3, .ref ao), (4, .int x4)]) {cells slots : Nat} (hc : cells + 161 ≤ 601024) (hs : slots + 7887 ≤ 7293034) {Q : State → Prop}
    (kk : ∀ (mm : mM) (H : Heap) (locs : List Loc) (ls : Array Slot), J mm → mH G mm s.heap H locs → lv_has ls 8 [(0, .ref bS), (1, .ref a), (2, .ref b), (3, .ref ao), (4, .int x4)] → W p l e room_1 s m args below meth c H locs (cells + 161) (slots + 7887) Q (F0 m 2497 ls [])) :
    W p l e room_1 s m args below meth c H locs cells slots Q (F0 m 1823 ls []) := by
 refine lv_aload_n X.x X.b (dk DL_law_17 26 rfl) rfl (lv_at hl 1 rfl) ?_
 refine lv_aload_n X.x X.b (dk DL_law_17 27 rfl) rfl (lv_at hl 0 rfl) ?_
 refine lv_iload X.x X.b (dk DL_law_17 28 rfl) (lv_at hl 4 rfl) ?_
 refine lv_iconst (v := 1) X.x X.b (dk DL_law_17 29 rfl) (by decide) ?_
 refine lv_iadd X.x X.b (dk DL_law_17 30 rfl) ?_
 refine lw_sld X hH hX hbl hbA g1.1 g1.2 (dk DL_law_17 31 rfl) ?_
 refine lv_aload_n X.x X.b (dk DL_law_17 32 rfl) rfl (lv_at hl 3 rfl) ?_
 obtain ⟨Pm, hC, hP⟩ := hAg mm A1 hJ
 refine mr_xi hH (mr_hrunS (As := [.ref a, .int A1, .ref ao]) (rest := []) X hH hC kM_L_247 kT_L_like kN_L kW_L_like hd_L_like ⟨Nat.le_of_ble_eq_true rfl, Nat.le_of_ble_eq_true rfl⟩ rfl hl.1 (Nat.le_of_ble_eq_true rfl) (dk DL_law_17 33 rfl) ⟨room_le1 (a := rm_L_like.cells) (x := 1) (K := 601024) rfl (by omega), room_le1 (a := rm_L_like.slots) (x := 6) (K := 7293034) rfl (by omega)⟩) (fun E h1 q9 H locs hp hH hth => hp.elim) (fun r h1 H locs hp hH => ?_)
 obtain ⟨q, st, x, bv, fo, hqb, hq, hm, hF, hx2, hfo, hv, hJ2⟩ := hP r h1 hp
 refine W.widen (k := cells + 161) (n := slots + 7887) (room_le1 (a := rm_L_like.cells) (x := 1) rfl (by omega)) (room_le1 (a := rm_L_like.slots) (x := 6) rfl (by omega)) ?_
 subst hqb
 have hR := c_X12_like (l := l) (G := G) (h := h1) hq hF
 rw [hm] at hR
 have hroot := (oset_at (G := G) (st := st) (h := h1) hq (Nat.le_refl _) ohas_N).trans (congrArg some ocell_N)
 rw [hm] at hroot
 have hroot2 := (oset_at (G := G) (st := x) (h := h1) hq (Nat.le_refl _) ohas_N).trans (congrArg some ocell_N)
 refine lv_istore (lv' := [(5, .int r), (0, .ref bS), (1, .ref a), (2, .ref (q 53)), (3, .ref ao), (4, .int x4)]) X.x X.b (dk DL_law_17 34 rfl) hl (by decide) rfl (fun ls hl => ?_)
 replace hl : lv_has ls 8 [(0, .ref bS), (1, .ref a), (2, .ref (q 53)), (3, .ref ao), (4, .int x4), (5, .int r)] := lv_sub hl [1, 2, 3, 4, 5, 0] rfl
 refine lv_aload_n X.x X.b (dk DL_law_17 35 rfl) rfl (lv_at hl 2 rfl) ?_
 refine lv_aload_n X.x X.b (dk DL_law_17 36 rfl) rfl (lv_at hl 0 rfl) ?_
 refine lv_iload X.x X.b (dk DL_law_17 37 rfl) (lv_at hl 4 rfl) ?_
 refine lv_iconst (v := 1) X.x X.b (dk DL_law_17 38 rfl) (by decide) ?_
 refine lv_iadd X.x X.b (dk DL_law_17 39 rfl) ?_
 refine lw_sld X hH hX hbl hbA g1.1 g1.2 (dk DL_law_17 40 rfl) ?_
 refine mr_ci0 hH ⟨rfl, rfl⟩ (mr_runV (As := [.int A1]) (rest := []) X hH hR hroot OX12.1 kM_L_249 kI_X12_like kS_X12_like kN_X12 kC_X12_like hd_X12_like ⟨Nat.le_of_ble_eq_true rfl, Nat.le_of_ble_eq_true rfl⟩ rfl hl.1 (Nat.le_of_ble_eq_true rfl) (dk DL_law_17 41 rfl) ⟨room_le3 (c := cells + 161) (b := rm_X12_like.cells) (K := 601024) rfl hc, room_le3 (c := slots + 7887) (b := rm_X12_like.slots) (K := 7293034) rfl hs⟩) (fun r2 h2 H locs hp2 hH => ?_)
 replace hp2 : r2 = bv ∧ h2 = oset LX12 G q x h1 := hp2
 obtain ⟨e1, e2⟩ := hp2
 subst e2
 refine lv_istore (lv' := [(6, .int r2), (0, .ref bS), (1, .ref a), (2, .ref (q 53)), (3, .ref ao), (4, .int x4), (5, .int r)]) X.x X.b (dk DL_law_17 42 rfl) hl (by decide) rfl (fun ls hl => ?_)
 replace hl : lv_has ls 8 [(0, .ref bS), (1, .ref a), (2, .ref (q 53)), (3, .ref ao), (4, .int x4), (5, .int r), (6, .int r2)] := lv_sub hl [1, 2, 3, 4, 5, 6, 0] rfl
 refine lv_aload_n X.x X.b (dk DL_law_17 43 rfl) rfl (lv_at hl 2 rfl) ?_
 refine mr_ci0 hH ⟨rfl, rfl⟩ (mr_runV (As := []) (rest := []) X hH (c_X12_thrown (l := l) (G := G) (h := h1) hq (st := x) (x := x.1 2) rfl) hroot2 OX12.1 kM_L_128 kI_X12_thrown kS_X12_thrown kN_X12 kC_X12_thrown hd_X12_thrown ⟨Nat.le_of_ble_eq_true rfl, Nat.le_of_ble_eq_true rfl⟩ rfl hl.1 (Nat.le_of_ble_eq_true rfl) (dk DL_law_17 44 rfl) ⟨room_le3 (c := cells + 161) (b := rm_X12_thrown.cells) (K := 601024) rfl hc, room_le3 (c := slots + 7887) (b := rm_X12_thrown.slots) (K := 7293034) rfl hs⟩) (fun r3 h3 H locs hp3 hH => ?_)
 obtain ⟨e3, e4⟩ := hp3
 subst e4
 refine lv_iload X.x X.b (dk DL_law_17 45 rfl) (lv_at hl 5 rfl) ?_
 refine lv_icmp_eq (tgt := 1859) X.x X.b (dk DL_law_17 46 rfl) (by decide) (fun _ => ?_) (fun z => absurd (e3.trans hx2) z)
 refine lv_iload X.x X.b (dk DL_law_17 49 rfl) (lv_at hl 5 rfl) ?_
 refine lv_if_ne (tgt := 1876) X.x X.b (dk DL_law_17 50 rfl) (by decide) (fun c0 => ?_) (fun c0 => ?_)
 · refine lv_goto (tgt := 2497) X.x X.b (dk DL_law_18 0 rfl) (by decide) ?_
   exact kk _ _ _ _ hJ2 hH (lv_sub hl [0, 1, 2, 3, 4] rfl)
 · refine lv_aload_n X.x X.b (dk DL_law_17 51 rfl) rfl (lv_at hl 3 rfl) ?_
   refine lv_iconst (v := 0) X.x X.b (dk DL_law_17 52 rfl) (by decide) ?_
   have hr0 : r = 0 := by first | exact c0 | exact Decidable.not_not.mp c0
   refine mr_lald X hH hfo (show vp_in (nI 0) 1 from vp_in_nI (by decide) (by decide)) (dk DL_law_17 53 rfl) ?_
   rw [show ((0 : Int32).toNatClampNeg) = 0 from rfl]
   refine lv_iload X.x X.b (dk DL_law_17 54 rfl) (lv_at hl 6 rfl) ?_
   refine lv_i2l X.x X.b (dk DL_law_17 55 rfl) rfl ?_
   refine W.lcmp X.x X.b (dk DL_law_17 56 rfl) ?_
   refine lv_if_eq (tgt := 1876) X.x X.b (dk DL_law_17 57 rfl) (by decide) (fun _ => ?_) (fun z => absurd ((lg_cmp_eq _ _).mpr ((hv hr0).trans (by rw [e1]))) z)
   refine lv_goto (tgt := 2497) X.x X.b (dk DL_law_18 0 rfl) (by decide) ?_
   exact kk _ _ _ _ hJ2 hH (lv_sub hl [0, 1, 2, 3, 4] rfl)
set_option maxHeartbeats 4000000 in
set_option maxRecDepth 100000 in
theorem lc_add {p : Program} {l : Launch} {e : Env} {s : State} {m : MethodId} {args : Array Value} {below : List Frame} {meth : Method} {c : Code} {G : mG} {L : Nat} {xs : Nat → Int32} {bS a b ao : Nat} (X : mX G p m c code 8 s args RL) (hX : va_X bS L xs s s.heap) (hbl : bS < s.heap.size) (hbA : ¬ mA G bS) {J : mM → Prop} (hJa : ∀ m, J m → ∃ fs, m a = some (.inr (LX11.1, fs))) (hAg : Ag_add l G J a b ao) {x4 A1 A2 A3 A4 A5 : Int32} (g1 : vp_in (x4 + 1) L ∧ xs (x4 + 1).toNatClampNeg = A1) (g2 : vp_in (x4 + 2) L ∧ xs (x4 + 2).toNatClampNeg = A2) (g3 : vp_in (x4 + 3) L ∧ xs (x4 + 3).toNatClampNeg = A3) (g4 : vp_in (x4 + 4) L ∧ xs (x4 + 4).toNatClampNeg = A4) (g5 : vp_in (x4 + 5) L ∧ xs (x4 + 5).toNatClampNeg = A5) {mm : mM} {H : Heap} {locs : List Loc} {ls : Array Slot} (hJ : J mm) (hH : mH G mm s.heap H locs) (hl : lv_has ls 8 [(0, .ref bS), (1, .ref a), (2, .ref b), (3, .ref ao), (4, .int x4)]) {cells slots : Nat} (hc : cells + 161 ≤ 601024) (hs : slots + 7887 ≤ 7293034) {Q : State → Prop}
    (kk : ∀ (mm : mM) (H : Heap) (locs : List Loc) (ls : Array Slot), J mm → mH G mm s.heap H locs → lv_has ls 8 [(0, .ref bS), (1, .ref a), (2, .ref b), (3, .ref ao), (4, .int x4)] → W p l e room_1 s m args below meth c H locs (cells + 161) (slots + 7887) Q (F0 m 2497 ls [])) :
    W p l e room_1 s m args below meth c H locs cells slots Q (F0 m 1879 ls []) := by
 refine lv_aload_n X.x X.b (dk DL_law_18 1 rfl) rfl (lv_at hl 1 rfl) ?_
 refine lv_aload_n X.x X.b (dk DL_law_18 2 rfl) rfl (lv_at hl 0 rfl) ?_
 refine lv_iload X.x X.b (dk DL_law_18 3 rfl) (lv_at hl 4 rfl) ?_
 refine lv_iconst (v := 1) X.x X.b (dk DL_law_18 4 rfl) (by decide) ?_
 refine lv_iadd X.x X.b (dk DL_law_18 5 rfl) ?_
 refine lw_sld X hH hX hbl hbA g1.1 g1.2 (dk DL_law_18 6 rfl) ?_
 refine lv_i2l X.x X.b (dk DL_law_18 7 rfl) rfl ?_
 refine lv_bipush (v := 32) X.x X.b (dk DL_law_18 8 rfl) (by decide) ?_
 refine lv_lshl X.x X.b (dk DL_law_18 9 rfl) rfl ?_
 refine lv_aload_n X.x X.b (dk DL_law_18 10 rfl) rfl (lv_at hl 0 rfl) ?_
 refine lv_iload X.x X.b (dk DL_law_18 11 rfl) (lv_at hl 4 rfl) ?_
 refine lv_iconst (v := 2) X.x X.b (dk DL_law_18 12 rfl) (by decide) ?_
 refine lv_iadd X.x X.b (dk DL_law_18 13 rfl) ?_
 refine lw_sld X hH hX hbl hbA g2.1 g2.2 (dk DL_law_18 14 rfl) ?_
 refine lv_i2l X.x X.b (dk DL_law_18 15 rfl) rfl ?_
 refine lv_ldc2 (v := 4294967295) X.x X.b X.ow (X.ts _ kK_L_149) (dk DL_law_18 16 rfl) ?_
 refine lv_land X.x X.b (dk DL_law_18 17 rfl) ?_
 refine lv_lor X.x X.b (dk DL_law_18 18 rfl) ?_
 refine lv_aload_n X.x X.b (dk DL_law_18 19 rfl) rfl (lv_at hl 3 rfl) ?_
 obtain ⟨Pm, hC, hP⟩ := hAg mm (((((A1 : Int32).toInt64 : Int64)) <<< ((32 : Int32).toInt64 &&& 63)) ||| (((A2 : Int32).toInt64) &&& 4294967295)) hJ
 refine mr_xi hH (mr_hrunS (As := [.ref a, .long (((((A1 : Int32).toInt64 : Int64)) <<< ((32 : Int32).toInt64 &&& 63)) ||| (((A2 : Int32).toInt64) &&& 4294967295)), .ref ao]) (rest := []) X hH hC kM_L_250 kT_L_add kN_L kW_L_add hd_L_add ⟨Nat.le_of_ble_eq_true rfl, Nat.le_of_ble_eq_true rfl⟩ rfl hl.1 (Nat.le_of_ble_eq_true rfl) (dk DL_law_18 20 rfl) ⟨room_le1 (a := rm_L_add.cells) (x := 10) (K := 601024) rfl (by omega), room_le1 (a := rm_L_add.slots) (x := 300) (K := 7293034) rfl (by omega)⟩) (fun E h1 q9 H locs hp hH hth => hp.elim) (fun r h1 H locs hp hH => ?_)
 obtain ⟨q, st, x, bv, fo, hqb, hq, hm, hF, hx2, hfo, hv, hJ2⟩ := hP r h1 hp
 refine W.widen (k := cells + 161) (n := slots + 7887) (room_le1 (a := rm_L_add.cells) (x := 10) rfl (by omega)) (room_le1 (a := rm_L_add.slots) (x := 300) rfl (by omega)) ?_
 subst hqb
 have hR := c_X12_add (l := l) (G := G) (h := h1) hq hF
 rw [hm] at hR
 have hroot := (oset_at (G := G) (st := st) (h := h1) hq (Nat.le_refl _) ohas_N).trans (congrArg some ocell_N)
 rw [hm] at hroot
 have hroot2 := (oset_at (G := G) (st := x) (h := h1) hq (Nat.le_refl _) ohas_N).trans (congrArg some ocell_N)
 refine lv_istore (lv' := [(5, .int r), (0, .ref bS), (1, .ref a), (2, .ref (q 53)), (3, .ref ao), (4, .int x4)]) X.x X.b (dk DL_law_18 21 rfl) hl (by decide) rfl (fun ls hl => ?_)
 replace hl : lv_has ls 8 [(0, .ref bS), (1, .ref a), (2, .ref (q 53)), (3, .ref ao), (4, .int x4), (5, .int r)] := lv_sub hl [1, 2, 3, 4, 5, 0] rfl
 refine lv_aload_n X.x X.b (dk DL_law_18 22 rfl) rfl (lv_at hl 2 rfl) ?_
 refine lv_aload_n X.x X.b (dk DL_law_18 23 rfl) rfl (lv_at hl 0 rfl) ?_
 refine lv_iload X.x X.b (dk DL_law_18 24 rfl) (lv_at hl 4 rfl) ?_
 refine lv_iconst (v := 1) X.x X.b (dk DL_law_18 25 rfl) (by decide) ?_
 refine lv_iadd X.x X.b (dk DL_law_18 26 rfl) ?_
 refine lw_sld X hH hX hbl hbA g1.1 g1.2 (dk DL_law_18 27 rfl) ?_
 refine lv_i2l X.x X.b (dk DL_law_18 28 rfl) rfl ?_
 refine lv_bipush (v := 32) X.x X.b (dk DL_law_18 29 rfl) (by decide) ?_
 refine lv_lshl X.x X.b (dk DL_law_18 30 rfl) rfl ?_
 refine lv_aload_n X.x X.b (dk DL_law_18 31 rfl) rfl (lv_at hl 0 rfl) ?_
 refine lv_iload X.x X.b (dk DL_law_18 32 rfl) (lv_at hl 4 rfl) ?_
 refine lv_iconst (v := 2) X.x X.b (dk DL_law_18 33 rfl) (by decide) ?_
 refine lv_iadd X.x X.b (dk DL_law_18 34 rfl) ?_
 refine lw_sld X hH hX hbl hbA g2.1 g2.2 (dk DL_law_18 35 rfl) ?_
 refine lv_i2l X.x X.b (dk DL_law_18 36 rfl) rfl ?_
 refine lv_ldc2 (v := 4294967295) X.x X.b X.ow (X.ts _ kK_L_149) (dk DL_law_18 37 rfl) ?_
 refine lv_land X.x X.b (dk DL_law_18 38 rfl) ?_
 refine lv_lor X.x X.b (dk DL_law_18 39 rfl) ?_
 refine mr_ci0 hH ⟨rfl, rfl⟩ (mr_runV (As := [.long (((((A1 : Int32).toInt64 : Int64)) <<< ((32 : Int32).toInt64 &&& 63)) ||| (((A2 : Int32).toInt64) &&& 4294967295))]) (rest := []) X hH hR hroot OX12.1 kM_L_252 kI_X12_add kS_X12_add kN_X12 kC_X12_add hd_X12_add ⟨Nat.le_of_ble_eq_true rfl, Nat.le_of_ble_eq_true rfl⟩ rfl hl.1 (Nat.le_of_ble_eq_true rfl) (dk DL_law_18 40 rfl) ⟨room_le3 (c := cells + 161) (b := rm_X12_add.cells) (K := 601024) rfl hc, room_le3 (c := slots + 7887) (b := rm_X12_add.slots) (K := 7293034) rfl hs⟩) (fun r2 h2 H locs hp2 hH => ?_)
 replace hp2 : r2 = bv ∧ h2 = oset LX12 G q x h1 := hp2
 obtain ⟨e1, e2⟩ := hp2
 subst e2
 refine lv_istore (lv' := [(6, .int r2), (0, .ref bS), (1, .ref a), (2, .ref (q 53)), (3, .ref ao), (4, .int x4), (5, .int r)]) X.x X.b (dk DL_law_18 41 rfl) hl (by decide) rfl (fun ls hl => ?_)
 replace hl : lv_has ls 8 [(0, .ref bS), (1, .ref a), (2, .ref (q 53)), (3, .ref ao), (4, .int x4), (5, .int r), (6, .int r2)] := lv_sub hl [1, 2, 3, 4, 5, 6, 0] rfl
 refine lv_aload_n X.x X.b (dk DL_law_18 42 rfl) rfl (lv_at hl 2 rfl) ?_
 refine mr_ci0 hH ⟨rfl, rfl⟩ (mr_runV (As := []) (rest := []) X hH (c_X12_thrown (l := l) (G := G) (h := h1) hq (st := x) (x := x.1 2) rfl) hroot2 OX12.1 kM_L_128 kI_X12_thrown kS_X12_thrown kN_X12 kC_X12_thrown hd_X12_thrown ⟨Nat.le_of_ble_eq_true rfl, Nat.le_of_ble_eq_true rfl⟩ rfl hl.1 (Nat.le_of_ble_eq_true rfl) (dk DL_law_18 43 rfl) ⟨room_le3 (c := cells + 161) (b := rm_X12_thrown.cells) (K := 601024) rfl hc, room_le3 (c := slots + 7887) (b := rm_X12_thrown.slots) (K := 7293034) rfl hs⟩) (fun r3 h3 H locs hp3 hH => ?_)
 obtain ⟨e3, e4⟩ := hp3
 subst e4
 refine lv_iload X.x X.b (dk DL_law_18 44 rfl) (lv_at hl 5 rfl) ?_
 refine lv_icmp_eq (tgt := 1947) X.x X.b (dk DL_law_18 45 rfl) (by decide) (fun _ => ?_) (fun z => absurd (e3.trans hx2) z)
 refine lv_iload X.x X.b (dk DL_law_18 48 rfl) (lv_at hl 5 rfl) ?_
 refine lv_if_ne (tgt := 1964) X.x X.b (dk DL_law_18 49 rfl) (by decide) (fun c0 => ?_) (fun c0 => ?_)
 · refine lv_goto (tgt := 2497) X.x X.b (dk DL_law_18 59 rfl) (by decide) ?_
   exact kk _ _ _ _ hJ2 hH (lv_sub hl [0, 1, 2, 3, 4] rfl)
 · refine lv_aload_n X.x X.b (dk DL_law_18 50 rfl) rfl (lv_at hl 3 rfl) ?_
   refine lv_iconst (v := 0) X.x X.b (dk DL_law_18 51 rfl) (by decide) ?_
   have hr0 : r = 0 := by first | exact c0 | exact Decidable.not_not.mp c0
   refine mr_lald X hH hfo (show vp_in (nI 0) 1 from vp_in_nI (by decide) (by decide)) (dk DL_law_18 52 rfl) ?_
   rw [show ((0 : Int32).toNatClampNeg) = 0 from rfl]
   refine lv_iload X.x X.b (dk DL_law_18 53 rfl) (lv_at hl 6 rfl) ?_
   refine lv_i2l X.x X.b (dk DL_law_18 54 rfl) rfl ?_
   refine W.lcmp X.x X.b (dk DL_law_18 55 rfl) ?_
   refine lv_if_eq (tgt := 1964) X.x X.b (dk DL_law_18 56 rfl) (by decide) (fun _ => ?_) (fun z => absurd ((lg_cmp_eq _ _).mpr ((hv hr0).trans (by rw [e1]))) z)
   refine lv_goto (tgt := 2497) X.x X.b (dk DL_law_18 59 rfl) (by decide) ?_
   exact kk _ _ _ _ hJ2 hH (lv_sub hl [0, 1, 2, 3, 4] rfl)
set_option maxHeartbeats 4000000 in
set_option maxRecDepth 100000 in
theorem lc_drop {p : Program} {l : Launch} {e : Env} {s : State} {m : MethodId} {args : Array Value} {below : List Frame} {meth : Method} {c : Code} {G : mG} {L : Nat} {xs : Nat → Int32} {bS a b ao : Nat} (X : mX G p m c code 8 s args RL) (hX : va_X bS L xs s s.heap) (hbl : bS < s.heap.size) (hbA : ¬ mA G bS) {J : mM → Prop} (hJa : ∀ m, J m → ∃ fs, m a = some (.inr (LX11.1, fs))) (hAg : Ag_drop l G J a b ao) {x4 A1 A2 A3 A4 A5 : Int32} (g1 : vp_in (x4 + 1) L ∧ xs (x4 + 1).toNatClampNeg = A1) (g2 : vp_in (x4 + 2) L ∧ xs (x4 + 2).toNatClampNeg = A2) (g3 : vp_in (x4 + 3) L ∧ xs (x4 + 3).toNatClampNeg = A3) (g4 : vp_in (x4 + 4) L ∧ xs (x4 + 4).toNatClampNeg = A4) (g5 : vp_in (x4 + 5) L ∧ xs (x4 + 5).toNatClampNeg = A5) {mm : mM} {H : Heap} {locs : List Loc} {ls : Array Slot} (hJ : J mm) (hH : mH G mm s.heap H locs) (hl : lv_has ls 8 [(0, .ref bS), (1, .ref a), (2, .ref b), (3, .ref ao), (4, .int x4)]) {cells slots : Nat} (hc : cells + 161 ≤ 601024) (hs : slots + 7887 ≤ 7293034) {Q : State → Prop}
    (kk : ∀ (mm : mM) (H : Heap) (locs : List Loc) (ls : Array Slot), J mm → mH G mm s.heap H locs → lv_has ls 8 [(0, .ref bS), (1, .ref a), (2, .ref b), (3, .ref ao), (4, .int x4)] → W p l e room_1 s m args below meth c H locs (cells + 161) (slots + 7887) Q (F0 m 2497 ls [])) :
    W p l e room_1 s m args below meth c H locs cells slots Q (F0 m 1967 ls []) := by
 refine lv_aload_n X.x X.b (dk DL_law_19 0 rfl) rfl (lv_at hl 1 rfl) ?_
 refine lv_aload_n X.x X.b (dk DL_law_19 1 rfl) rfl (lv_at hl 0 rfl) ?_
 refine lv_iload X.x X.b (dk DL_law_19 2 rfl) (lv_at hl 4 rfl) ?_
 refine lv_iconst (v := 1) X.x X.b (dk DL_law_19 3 rfl) (by decide) ?_
 refine lv_iadd X.x X.b (dk DL_law_19 4 rfl) ?_
 refine lw_sld X hH hX hbl hbA g1.1 g1.2 (dk DL_law_19 5 rfl) ?_
 refine lv_aload_n X.x X.b (dk DL_law_19 6 rfl) rfl (lv_at hl 3 rfl) ?_
 obtain ⟨Pm, hC, hP⟩ := hAg mm A1 hJ
 refine mr_xi hH (mr_hrunS (As := [.ref a, .int A1, .ref ao]) (rest := []) X hH hC kM_L_253 kT_L_drop kN_L kW_L_drop hd_L_drop ⟨Nat.le_of_ble_eq_true rfl, Nat.le_of_ble_eq_true rfl⟩ rfl hl.1 (Nat.le_of_ble_eq_true rfl) (dk DL_law_19 7 rfl) ⟨room_le1 (a := rm_L_drop.cells) (x := 10) (K := 601024) rfl (by omega), room_le1 (a := rm_L_drop.slots) (x := 300) (K := 7293034) rfl (by omega)⟩) (fun E h1 q9 H locs hp hH hth => hp.elim) (fun r h1 H locs hp hH => ?_)
 obtain ⟨q, st, x, bv, fo, hqb, hq, hm, hF, hx2, hfo, hv, hJ2⟩ := hP r h1 hp
 refine W.widen (k := cells + 161) (n := slots + 7887) (room_le1 (a := rm_L_drop.cells) (x := 10) rfl (by omega)) (room_le1 (a := rm_L_drop.slots) (x := 300) rfl (by omega)) ?_
 subst hqb
 have hR := c_X12_drop (l := l) (G := G) (h := h1) hq hF
 rw [hm] at hR
 have hroot := (oset_at (G := G) (st := st) (h := h1) hq (Nat.le_refl _) ohas_N).trans (congrArg some ocell_N)
 rw [hm] at hroot
 have hroot2 := (oset_at (G := G) (st := x) (h := h1) hq (Nat.le_refl _) ohas_N).trans (congrArg some ocell_N)
 refine lv_istore (lv' := [(5, .int r), (0, .ref bS), (1, .ref a), (2, .ref (q 53)), (3, .ref ao), (4, .int x4)]) X.x X.b (dk DL_law_19 8 rfl) hl (by decide) rfl (fun ls hl => ?_)
 replace hl : lv_has ls 8 [(0, .ref bS), (1, .ref a), (2, .ref (q 53)), (3, .ref ao), (4, .int x4), (5, .int r)] := lv_sub hl [1, 2, 3, 4, 5, 0] rfl
 refine lv_aload_n X.x X.b (dk DL_law_19 9 rfl) rfl (lv_at hl 2 rfl) ?_
 refine lv_aload_n X.x X.b (dk DL_law_19 10 rfl) rfl (lv_at hl 0 rfl) ?_
 refine lv_iload X.x X.b (dk DL_law_19 11 rfl) (lv_at hl 4 rfl) ?_
 refine lv_iconst (v := 1) X.x X.b (dk DL_law_19 12 rfl) (by decide) ?_
 refine lv_iadd X.x X.b (dk DL_law_19 13 rfl) ?_
 refine lw_sld X hH hX hbl hbA g1.1 g1.2 (dk DL_law_19 14 rfl) ?_
 refine mr_cl0 hH ⟨rfl, rfl⟩ (mr_runV (As := [.int A1]) (rest := []) X hH hR hroot OX12.1 kM_L_255 kI_X12_drop kS_X12_drop kN_X12 kC_X12_drop hd_X12_drop ⟨Nat.le_of_ble_eq_true rfl, Nat.le_of_ble_eq_true rfl⟩ rfl hl.1 (Nat.le_of_ble_eq_true rfl) (dk DL_law_19 15 rfl) ⟨room_le3 (c := cells + 161) (b := rm_X12_drop.cells) (K := 601024) rfl hc, room_le3 (c := slots + 7887) (b := rm_X12_drop.slots) (K := 7293034) rfl hs⟩) (fun r2 h2 H locs hp2 hH => ?_)
 replace hp2 : r2 = bv ∧ h2 = oset LX12 G q x h1 := hp2
 obtain ⟨e1, e2⟩ := hp2
 subst e2
 refine lv_lstore (lv' := [(6, .long r2), (0, .ref bS), (1, .ref a), (2, .ref (q 53)), (3, .ref ao), (4, .int x4), (5, .int r)]) X.x X.b (dk DL_law_19 16 rfl) hl (by decide) rfl (fun ls hl => ?_)
 replace hl : lv_has ls 8 [(0, .ref bS), (1, .ref a), (2, .ref (q 53)), (3, .ref ao), (4, .int x4), (5, .int r), (6, .long r2)] := lv_sub hl [1, 2, 3, 4, 5, 6, 0] rfl
 refine lv_aload_n X.x X.b (dk DL_law_19 17 rfl) rfl (lv_at hl 2 rfl) ?_
 refine mr_ci0 hH ⟨rfl, rfl⟩ (mr_runV (As := []) (rest := []) X hH (c_X12_thrown (l := l) (G := G) (h := h1) hq (st := x) (x := x.1 2) rfl) hroot2 OX12.1 kM_L_128 kI_X12_thrown kS_X12_thrown kN_X12 kC_X12_thrown hd_X12_thrown ⟨Nat.le_of_ble_eq_true rfl, Nat.le_of_ble_eq_true rfl⟩ rfl hl.1 (Nat.le_of_ble_eq_true rfl) (dk DL_law_19 18 rfl) ⟨room_le3 (c := cells + 161) (b := rm_X12_thrown.cells) (K := 601024) rfl hc, room_le3 (c := slots + 7887) (b := rm_X12_thrown.slots) (K := 7293034) rfl hs⟩) (fun r3 h3 H locs hp3 hH => ?_)
 obtain ⟨e3, e4⟩ := hp3
 subst e4
 refine lv_iload X.x X.b (dk DL_law_19 19 rfl) (lv_at hl 5 rfl) ?_
 refine lv_icmp_eq (tgt := 2003) X.x X.b (dk DL_law_19 20 rfl) (by decide) (fun _ => ?_) (fun z => absurd (e3.trans hx2) z)
 refine lv_iload X.x X.b (dk DL_law_19 23 rfl) (lv_at hl 5 rfl) ?_
 refine lv_if_ne (tgt := 2019) X.x X.b (dk DL_law_19 24 rfl) (by decide) (fun c0 => ?_) (fun c0 => ?_)
 · refine lv_goto (tgt := 2497) X.x X.b (dk DL_law_19 33 rfl) (by decide) ?_
   exact kk _ _ _ _ hJ2 hH (lv_sub hl [0, 1, 2, 3, 4] rfl)
 · refine lv_aload_n X.x X.b (dk DL_law_19 25 rfl) rfl (lv_at hl 3 rfl) ?_
   refine lv_iconst (v := 0) X.x X.b (dk DL_law_19 26 rfl) (by decide) ?_
   have hr0 : r = 0 := by first | exact c0 | exact Decidable.not_not.mp c0
   refine mr_lald X hH hfo (show vp_in (nI 0) 1 from vp_in_nI (by decide) (by decide)) (dk DL_law_19 27 rfl) ?_
   rw [show ((0 : Int32).toNatClampNeg) = 0 from rfl]
   refine lv_lload X.x X.b (dk DL_law_19 28 rfl) (lv_at hl 6 rfl) ?_
   refine W.lcmp X.x X.b (dk DL_law_19 29 rfl) ?_
   refine lv_if_eq (tgt := 2019) X.x X.b (dk DL_law_19 30 rfl) (by decide) (fun _ => ?_) (fun z => absurd ((lg_cmp_eq _ _).mpr ((hv hr0).trans (by rw [e1]))) z)
   refine lv_goto (tgt := 2497) X.x X.b (dk DL_law_19 33 rfl) (by decide) ?_
   exact kk _ _ _ _ hJ2 hH (lv_sub hl [0, 1, 2, 3, 4] rfl)
set_option maxHeartbeats 4000000 in
set_option maxRecDepth 100000 in
theorem lc_dual {p : Program} {l : Launch} {e : Env} {s : State} {m : MethodId} {args : Array Value} {below : List Frame} {meth : Method} {c : Code} {G : mG} {L : Nat} {xs : Nat → Int32} {bS a b ao : Nat} (X : mX G p m c code 8 s args RL) (hX : va_X bS L xs s s.heap) (hbl : bS < s.heap.size) (hbA : ¬ mA G bS) {J : mM → Prop} (hJa : ∀ m, J m → ∃ fs, m a = some (.inr (LX11.1, fs))) (hAg : Ag_dual l G J a b ao) {x4 A1 A2 A3 A4 A5 : Int32} (g1 : vp_in (x4 + 1) L ∧ xs (x4 + 1).toNatClampNeg = A1) (g2 : vp_in (x4 + 2) L ∧ xs (x4 + 2).toNatClampNeg = A2) (g3 : vp_in (x4 + 3) L ∧ xs (x4 + 3).toNatClampNeg = A3) (g4 : vp_in (x4 + 4) L ∧ xs (x4 + 4).toNatClampNeg = A4) (g5 : vp_in (x4 + 5) L ∧ xs (x4 + 5).toNatClampNeg = A5) {mm : mM} {H : Heap} {locs : List Loc} {ls : Array Slot} (hJ : J mm) (hH : mH G mm s.heap H locs) (hl : lv_has ls 8 [(0, .ref bS), (1, .ref a), (2, .ref b), (3, .ref ao), (4, .int x4)]) {cells slots : Nat} (hc : cells + 161 ≤ 601024) (hs : slots + 7887 ≤ 7293034) {Q : State → Prop}
    (kk : ∀ (mm : mM) (H : Heap) (locs : List Loc) (ls : Array Slot), J mm → mH G mm s.heap H locs → lv_has ls 8 [(0, .ref bS), (1, .ref a), (2, .ref b), (3, .ref ao), (4, .int x4)] → W p l e room_1 s m args below meth c H locs (cells + 161) (slots + 7887) Q (F0 m 2497 ls [])) :
    W p l e room_1 s m args below meth c H locs cells slots Q (F0 m 2022 ls []) := by
 refine lv_aload_n X.x X.b (dk DL_law_19 34 rfl) rfl (lv_at hl 1 rfl) ?_
 obtain ⟨Pm, hC, hP⟩ := hAg mm  hJ
 obtain ⟨fs, ha⟩ := hJa mm hJ
 refine mr_ci hH (mr_runV (As := []) (rest := []) X hH hC ha OX11.1 kM_L_256 kI_X11_dual kS_X11_dual kN_X11 kC_X11_dual hd_X11_dual ⟨Nat.le_of_ble_eq_true rfl, Nat.le_of_ble_eq_true rfl⟩ rfl hl.1 (Nat.le_of_ble_eq_true rfl) (dk DL_law_19 35 rfl) ⟨room_le1 (a := rm_X11_dual.cells) (x := 10) (K := 601024) rfl (by omega), room_le1 (a := rm_X11_dual.slots) (x := 300) (K := 7293034) rfl (by omega)⟩) (fun r h1 H locs hp hH => ?_)
 obtain ⟨q, st, x, hqb, hq, hm, hF, hJ2⟩ := hP r h1 hp
 refine W.widen (k := cells + 161) (n := slots + 7887) (room_le1 (a := rm_X11_dual.cells) (x := 10) rfl (by omega)) (room_le1 (a := rm_X11_dual.slots) (x := 300) rfl (by omega)) ?_
 subst hqb
 have hR := c_X12_dual (l := l) (G := G) (h := h1) hq hF
 rw [hm] at hR
 have hroot := (oset_at (G := G) (st := st) (h := h1) hq (Nat.le_refl _) ohas_N).trans (congrArg some ocell_N)
 rw [hm] at hroot
 have hroot2 := (oset_at (G := G) (st := x) (h := h1) hq (Nat.le_refl _) ohas_N).trans (congrArg some ocell_N)
 refine lv_aload_n X.x X.b (dk DL_law_19 36 rfl) rfl (lv_at hl 2 rfl) ?_
 refine mr_ci0 hH ⟨rfl, rfl⟩ (mr_runV (As := []) (rest := [.int r]) X hH hR hroot OX12.1 kM_L_259 kI_X12_dual kS_X12_dual kN_X12 kC_X12_dual hd_X12_dual ⟨Nat.le_of_ble_eq_true rfl, Nat.le_of_ble_eq_true rfl⟩ rfl hl.1 (Nat.le_of_ble_eq_true rfl) (dk DL_law_19 37 rfl) ⟨room_le3 (c := cells + 161) (b := rm_X12_dual.cells) (K := 601024) rfl hc, room_le3 (c := slots + 7887) (b := rm_X12_dual.slots) (K := 7293034) rfl hs⟩) (fun r2 h2 H locs hp2 hH => ?_)
 replace hp2 : r2 = r ∧ h2 = oset LX12 G q x h1 := hp2
 obtain ⟨e1, e2⟩ := hp2
 subst e2
 refine lv_icmp_eq (tgt := 2497) X.x X.b (dk DL_law_19 38 rfl) (by decide) (fun _ => ?_) (fun z => absurd e1.symm z)
 exact kk _ _ _ _ hJ2 hH (lv_sub hl [0, 1, 2, 3, 4] rfl)
set_option maxHeartbeats 4000000 in
set_option maxRecDepth 100000 in
theorem lc_left {p : Program} {l : Launch} {e : Env} {s : State} {m : MethodId} {args : Array Value} {below : List Frame} {meth : Method} {c : Code} {G : mG} {L : Nat} {xs : Nat → Int32} {bS a b ao : Nat} (X : mX G p m c code 8 s args RL) (hX : va_X bS L xs s s.heap) (hbl : bS < s.heap.size) (hbA : ¬ mA G bS) {J : mM → Prop} (hJa : ∀ m, J m → ∃ fs, m a = some (.inr (LX11.1, fs))) (hAg : Ag_left l G J a b ao) {x4 A1 A2 A3 A4 A5 : Int32} (g1 : vp_in (x4 + 1) L ∧ xs (x4 + 1).toNatClampNeg = A1) (g2 : vp_in (x4 + 2) L ∧ xs (x4 + 2).toNatClampNeg = A2) (g3 : vp_in (x4 + 3) L ∧ xs (x4 + 3).toNatClampNeg = A3) (g4 : vp_in (x4 + 4) L ∧ xs (x4 + 4).toNatClampNeg = A4) (g5 : vp_in (x4 + 5) L ∧ xs (x4 + 5).toNatClampNeg = A5) {mm : mM} {H : Heap} {locs : List Loc} {ls : Array Slot} (hJ : J mm) (hH : mH G mm s.heap H locs) (hl : lv_has ls 8 [(0, .ref bS), (1, .ref a), (2, .ref b), (3, .ref ao), (4, .int x4)]) {cells slots : Nat} (hc : cells + 161 ≤ 601024) (hs : slots + 7887 ≤ 7293034) {Q : State → Prop}
    (kk : ∀ (mm : mM) (H : Heap) (locs : List Loc) (ls : Array Slot), J mm → mH G mm s.heap H locs → lv_has ls 8 [(0, .ref bS), (1, .ref a), (2, .ref b), (3, .ref ao), (4, .int x4)] → W p l e room_1 s m args below meth c H locs (cells + 161) (slots + 7887) Q (F0 m 2497 ls [])) :
    W p l e room_1 s m args below meth c H locs cells slots Q (F0 m 2035 ls []) := by
 refine lv_aload_n X.x X.b (dk DL_law_19 41 rfl) rfl (lv_at hl 1 rfl) ?_
 refine lv_aload_n X.x X.b (dk DL_law_19 42 rfl) rfl (lv_at hl 0 rfl) ?_
 refine lv_iload X.x X.b (dk DL_law_19 43 rfl) (lv_at hl 4 rfl) ?_
 refine lv_iconst (v := 1) X.x X.b (dk DL_law_19 44 rfl) (by decide) ?_
 refine lv_iadd X.x X.b (dk DL_law_19 45 rfl) ?_
 refine lw_sld X hH hX hbl hbA g1.1 g1.2 (dk DL_law_19 46 rfl) ?_
 refine lv_aload_n X.x X.b (dk DL_law_19 47 rfl) rfl (lv_at hl 3 rfl) ?_
 obtain ⟨Pm, hC, hP⟩ := hAg mm A1 hJ
 refine mr_xi hH (mr_hrunS (As := [.ref a, .int A1, .ref ao]) (rest := []) X hH hC kM_L_260 kT_L_left kN_L kW_L_left hd_L_left ⟨Nat.le_of_ble_eq_true rfl, Nat.le_of_ble_eq_true rfl⟩ rfl hl.1 (Nat.le_of_ble_eq_true rfl) (dk DL_law_19 48 rfl) ⟨room_le1 (a := rm_L_left.cells) (x := 10) (K := 601024) rfl (by omega), room_le1 (a := rm_L_left.slots) (x := 300) (K := 7293034) rfl (by omega)⟩) (fun E h1 q9 H locs hp hH hth => hp.elim) (fun r h1 H locs hp hH => ?_)
 obtain ⟨q, st, x, bv, fo, hqb, hq, hm, hF, hx2, hfo, hv, hJ2⟩ := hP r h1 hp
 refine W.widen (k := cells + 161) (n := slots + 7887) (room_le1 (a := rm_L_left.cells) (x := 10) rfl (by omega)) (room_le1 (a := rm_L_left.slots) (x := 300) rfl (by omega)) ?_
 subst hqb
 have hR := c_X12_left (l := l) (G := G) (h := h1) hq hF
 rw [hm] at hR
 have hroot := (oset_at (G := G) (st := st) (h := h1) hq (Nat.le_refl _) ohas_N).trans (congrArg some ocell_N)
 rw [hm] at hroot
 have hroot2 := (oset_at (G := G) (st := x) (h := h1) hq (Nat.le_refl _) ohas_N).trans (congrArg some ocell_N)
 refine lv_istore (lv' := [(5, .int r), (0, .ref bS), (1, .ref a), (2, .ref (q 53)), (3, .ref ao), (4, .int x4)]) X.x X.b (dk DL_law_19 49 rfl) hl (by decide) rfl (fun ls hl => ?_)
 replace hl : lv_has ls 8 [(0, .ref bS), (1, .ref a), (2, .ref (q 53)), (3, .ref ao), (4, .int x4), (5, .int r)] := lv_sub hl [1, 2, 3, 4, 5, 0] rfl
 refine lv_aload_n X.x X.b (dk DL_law_19 50 rfl) rfl (lv_at hl 2 rfl) ?_
 refine lv_aload_n X.x X.b (dk DL_law_19 51 rfl) rfl (lv_at hl 0 rfl) ?_
 refine lv_iload X.x X.b (dk DL_law_19 52 rfl) (lv_at hl 4 rfl) ?_
 refine lv_iconst (v := 1) X.x X.b (dk DL_law_19 53 rfl) (by decide) ?_
 refine lv_iadd X.x X.b (dk DL_law_19 54 rfl) ?_
 refine lw_sld X hH hX hbl hbA g1.1 g1.2 (dk DL_law_19 55 rfl) ?_
 refine mr_ci0 hH ⟨rfl, rfl⟩ (mr_runV (As := [.int A1]) (rest := []) X hH hR hroot OX12.1 kM_L_262 kI_X12_left kS_X12_left kN_X12 kC_X12_left hd_X12_left ⟨Nat.le_of_ble_eq_true rfl, Nat.le_of_ble_eq_true rfl⟩ rfl hl.1 (Nat.le_of_ble_eq_true rfl) (dk DL_law_19 56 rfl) ⟨room_le3 (c := cells + 161) (b := rm_X12_left.cells) (K := 601024) rfl hc, room_le3 (c := slots + 7887) (b := rm_X12_left.slots) (K := 7293034) rfl hs⟩) (fun r2 h2 H locs hp2 hH => ?_)
 replace hp2 : r2 = bv ∧ h2 = oset LX12 G q x h1 := hp2
 obtain ⟨e1, e2⟩ := hp2
 subst e2
 refine lv_istore (lv' := [(6, .int r2), (0, .ref bS), (1, .ref a), (2, .ref (q 53)), (3, .ref ao), (4, .int x4), (5, .int r)]) X.x X.b (dk DL_law_19 57 rfl) hl (by decide) rfl (fun ls hl => ?_)
 replace hl : lv_has ls 8 [(0, .ref bS), (1, .ref a), (2, .ref (q 53)), (3, .ref ao), (4, .int x4), (5, .int r), (6, .int r2)] := lv_sub hl [1, 2, 3, 4, 5, 6, 0] rfl
 refine lv_aload_n X.x X.b (dk DL_law_19 58 rfl) rfl (lv_at hl 2 rfl) ?_
 refine mr_ci0 hH ⟨rfl, rfl⟩ (mr_runV (As := []) (rest := []) X hH (c_X12_thrown (l := l) (G := G) (h := h1) hq (st := x) (x := x.1 2) rfl) hroot2 OX12.1 kM_L_128 kI_X12_thrown kS_X12_thrown kN_X12 kC_X12_thrown hd_X12_thrown ⟨Nat.le_of_ble_eq_true rfl, Nat.le_of_ble_eq_true rfl⟩ rfl hl.1 (Nat.le_of_ble_eq_true rfl) (dk DL_law_19 59 rfl) ⟨room_le3 (c := cells + 161) (b := rm_X12_thrown.cells) (K := 601024) rfl hc, room_le3 (c := slots + 7887) (b := rm_X12_thrown.slots) (K := 7293034) rfl hs⟩) (fun r3 h3 H locs hp3 hH => ?_)
 obtain ⟨e3, e4⟩ := hp3
 subst e4
 refine lv_iload X.x X.b (dk DL_law_20 0 rfl) (lv_at hl 5 rfl) ?_
 refine lv_icmp_eq (tgt := 2071) X.x X.b (dk DL_law_20 1 rfl) (by decide) (fun _ => ?_) (fun z => absurd (e3.trans hx2) z)
 refine lv_iload X.x X.b (dk DL_law_20 4 rfl) (lv_at hl 5 rfl) ?_
 refine lv_if_ne (tgt := 2088) X.x X.b (dk DL_law_20 5 rfl) (by decide) (fun c0 => ?_) (fun c0 => ?_)
 · refine lv_goto (tgt := 2497) X.x X.b (dk DL_law_20 15 rfl) (by decide) ?_
   exact kk _ _ _ _ hJ2 hH (lv_sub hl [0, 1, 2, 3, 4] rfl)
 · refine lv_aload_n X.x X.b (dk DL_law_20 6 rfl) rfl (lv_at hl 3 rfl) ?_
   refine lv_iconst (v := 0) X.x X.b (dk DL_law_20 7 rfl) (by decide) ?_
   have hr0 : r = 0 := by first | exact c0 | exact Decidable.not_not.mp c0
   refine mr_lald X hH hfo (show vp_in (nI 0) 1 from vp_in_nI (by decide) (by decide)) (dk DL_law_20 8 rfl) ?_
   rw [show ((0 : Int32).toNatClampNeg) = 0 from rfl]
   refine lv_iload X.x X.b (dk DL_law_20 9 rfl) (lv_at hl 6 rfl) ?_
   refine lv_i2l X.x X.b (dk DL_law_20 10 rfl) rfl ?_
   refine W.lcmp X.x X.b (dk DL_law_20 11 rfl) ?_
   refine lv_if_eq (tgt := 2088) X.x X.b (dk DL_law_20 12 rfl) (by decide) (fun _ => ?_) (fun z => absurd ((lg_cmp_eq _ _).mpr ((hv hr0).trans (by rw [e1]))) z)
   refine lv_goto (tgt := 2497) X.x X.b (dk DL_law_20 15 rfl) (by decide) ?_
   exact kk _ _ _ _ hJ2 hH (lv_sub hl [0, 1, 2, 3, 4] rfl)
set_option maxHeartbeats 4000000 in
set_option maxRecDepth 100000 in
theorem lc_undo {p : Program} {l : Launch} {e : Env} {s : State} {m : MethodId} {args : Array Value} {below : List Frame} {meth : Method} {c : Code} {G : mG} {L : Nat} {xs : Nat → Int32} {bS a b ao : Nat} (X : mX G p m c code 8 s args RL) (hX : va_X bS L xs s s.heap) (hbl : bS < s.heap.size) (hbA : ¬ mA G bS) {J : mM → Prop} (hJa : ∀ m, J m → ∃ fs, m a = some (.inr (LX11.1, fs))) (hAg : Ag_undo l G J a b ao) {x4 A1 A2 A3 A4 A5 : Int32} (g1 : vp_in (x4 + 1) L ∧ xs (x4 + 1).toNatClampNeg = A1) (g2 : vp_in (x4 + 2) L ∧ xs (x4 + 2).toNatClampNeg = A2) (g3 : vp_in (x4 + 3) L ∧ xs (x4 + 3).toNatClampNeg = A3) (g4 : vp_in (x4 + 4) L ∧ xs (x4 + 4).toNatClampNeg = A4) (g5 : vp_in (x4 + 5) L ∧ xs (x4 + 5).toNatClampNeg = A5) {mm : mM} {H : Heap} {locs : List Loc} {ls : Array Slot} (hJ : J mm) (hH : mH G mm s.heap H locs) (hl : lv_has ls 8 [(0, .ref bS), (1, .ref a), (2, .ref b), (3, .ref ao), (4, .int x4)]) {cells slots : Nat} (hc : cells + 161 ≤ 601024) (hs : slots + 7887 ≤ 7293034) {Q : State → Prop}
    (kk : ∀ (mm : mM) (H : Heap) (locs : List Loc) (ls : Array Slot), J mm → mH G mm s.heap H locs → lv_has ls 8 [(0, .ref bS), (1, .ref a), (2, .ref b), (3, .ref ao), (4, .int x4)] → W p l e room_1 s m args below meth c H locs (cells + 161) (slots + 7887) Q (F0 m 2497 ls [])) :
    W p l e room_1 s m args below meth c H locs cells slots Q (F0 m 2091 ls []) := by
 refine lv_aload_n X.x X.b (dk DL_law_20 16 rfl) rfl (lv_at hl 1 rfl) ?_
 obtain ⟨Pm, hC, hP⟩ := hAg mm  hJ
 obtain ⟨fs, ha⟩ := hJa mm hJ
 refine mr_ci hH (mr_runV (As := []) (rest := []) X hH hC ha OX11.1 kM_L_263 kI_X11_undo kS_X11_undo kN_X11 kC_X11_undo hd_X11_undo ⟨Nat.le_of_ble_eq_true rfl, Nat.le_of_ble_eq_true rfl⟩ rfl hl.1 (Nat.le_of_ble_eq_true rfl) (dk DL_law_20 17 rfl) ⟨room_le1 (a := rm_X11_undo.cells) (x := 4) (K := 601024) rfl (by omega), room_le1 (a := rm_X11_undo.slots) (x := 197) (K := 7293034) rfl (by omega)⟩) (fun r h1 H locs hp hH => ?_)
 obtain ⟨q, st, x, hqb, hq, hm, hF, hJ2⟩ := hP r h1 hp
 refine W.widen (k := cells + 161) (n := slots + 7887) (room_le1 (a := rm_X11_undo.cells) (x := 4) rfl (by omega)) (room_le1 (a := rm_X11_undo.slots) (x := 197) rfl (by omega)) ?_
 subst hqb
 have hR := c_X12_undo (l := l) (G := G) (h := h1) hq hF
 rw [hm] at hR
 have hroot := (oset_at (G := G) (st := st) (h := h1) hq (Nat.le_refl _) ohas_N).trans (congrArg some ocell_N)
 rw [hm] at hroot
 have hroot2 := (oset_at (G := G) (st := x) (h := h1) hq (Nat.le_refl _) ohas_N).trans (congrArg some ocell_N)
 refine lv_aload_n X.x X.b (dk DL_law_20 18 rfl) rfl (lv_at hl 2 rfl) ?_
 refine mr_ci0 hH ⟨rfl, rfl⟩ (mr_runV (As := []) (rest := [.int r]) X hH hR hroot OX12.1 kM_L_267 kI_X12_undo kS_X12_undo kN_X12 kC_X12_undo hd_X12_undo ⟨Nat.le_of_ble_eq_true rfl, Nat.le_of_ble_eq_true rfl⟩ rfl hl.1 (Nat.le_of_ble_eq_true rfl) (dk DL_law_20 19 rfl) ⟨room_le3 (c := cells + 161) (b := rm_X12_undo.cells) (K := 601024) rfl hc, room_le3 (c := slots + 7887) (b := rm_X12_undo.slots) (K := 7293034) rfl hs⟩) (fun r2 h2 H locs hp2 hH => ?_)
 replace hp2 : r2 = r ∧ h2 = oset LX12 G q x h1 := hp2
 obtain ⟨e1, e2⟩ := hp2
 subst e2
 refine lv_icmp_eq (tgt := 2497) X.x X.b (dk DL_law_20 20 rfl) (by decide) (fun _ => ?_) (fun z => absurd e1.symm z)
 exact kk _ _ _ _ hJ2 hH (lv_sub hl [0, 1, 2, 3, 4] rfl)
set_option maxHeartbeats 4000000 in
set_option maxRecDepth 100000 in
theorem lc_again {p : Program} {l : Launch} {e : Env} {s : State} {m : MethodId} {args : Array Value} {below : List Frame} {meth : Method} {c : Code} {G : mG} {L : Nat} {xs : Nat → Int32} {bS a b ao : Nat} (X : mX G p m c code 8 s args RL) (hX : va_X bS L xs s s.heap) (hbl : bS < s.heap.size) (hbA : ¬ mA G bS) {J : mM → Prop} (hJa : ∀ m, J m → ∃ fs, m a = some (.inr (LX11.1, fs))) (hAg : Ag_again l G J a b ao) {x4 A1 A2 A3 A4 A5 : Int32} (g1 : vp_in (x4 + 1) L ∧ xs (x4 + 1).toNatClampNeg = A1) (g2 : vp_in (x4 + 2) L ∧ xs (x4 + 2).toNatClampNeg = A2) (g3 : vp_in (x4 + 3) L ∧ xs (x4 + 3).toNatClampNeg = A3) (g4 : vp_in (x4 + 4) L ∧ xs (x4 + 4).toNatClampNeg = A4) (g5 : vp_in (x4 + 5) L ∧ xs (x4 + 5).toNatClampNeg = A5) {mm : mM} {H : Heap} {locs : List Loc} {ls : Array Slot} (hJ : J mm) (hH : mH G mm s.heap H locs) (hl : lv_has ls 8 [(0, .ref bS), (1, .ref a), (2, .ref b), (3, .ref ao), (4, .int x4)]) {cells slots : Nat} (hc : cells + 161 ≤ 601024) (hs : slots + 7887 ≤ 7293034) {Q : State → Prop}
    (kk : ∀ (mm : mM) (H : Heap) (locs : List Loc) (ls : Array Slot), J mm → mH G mm s.heap H locs → lv_has ls 8 [(0, .ref bS), (1, .ref a), (2, .ref b), (3, .ref ao), (4, .int x4)] → W p l e room_1 s m args below meth c H locs (cells + 161) (slots + 7887) Q (F0 m 2497 ls [])) :
    W p l e room_1 s m args below meth c H locs cells slots Q (F0 m 2104 ls []) := by
 refine lv_aload_n X.x X.b (dk DL_law_20 23 rfl) rfl (lv_at hl 1 rfl) ?_
 obtain ⟨Pm, hC, hP⟩ := hAg mm  hJ
 obtain ⟨fs, ha⟩ := hJa mm hJ
 refine mr_ci hH (mr_runV (As := []) (rest := []) X hH hC ha OX11.1 kM_L_268 kI_X11_again kS_X11_again kN_X11 kC_X11_again hd_X11_again ⟨Nat.le_of_ble_eq_true rfl, Nat.le_of_ble_eq_true rfl⟩ rfl hl.1 (Nat.le_of_ble_eq_true rfl) (dk DL_law_20 24 rfl) ⟨room_le1 (a := rm_X11_again.cells) (x := 4) (K := 601024) rfl (by omega), room_le1 (a := rm_X11_again.slots) (x := 197) (K := 7293034) rfl (by omega)⟩) (fun r h1 H locs hp hH => ?_)
 obtain ⟨q, st, x, hqb, hq, hm, hF, hJ2⟩ := hP r h1 hp
 refine W.widen (k := cells + 161) (n := slots + 7887) (room_le1 (a := rm_X11_again.cells) (x := 4) rfl (by omega)) (room_le1 (a := rm_X11_again.slots) (x := 197) rfl (by omega)) ?_
 subst hqb
 have hR := c_X12_again (l := l) (G := G) (h := h1) hq hF
 rw [hm] at hR
 have hroot := (oset_at (G := G) (st := st) (h := h1) hq (Nat.le_refl _) ohas_N).trans (congrArg some ocell_N)
 rw [hm] at hroot
 have hroot2 := (oset_at (G := G) (st := x) (h := h1) hq (Nat.le_refl _) ohas_N).trans (congrArg some ocell_N)
 refine lv_aload_n X.x X.b (dk DL_law_20 25 rfl) rfl (lv_at hl 2 rfl) ?_
 refine mr_ci0 hH ⟨rfl, rfl⟩ (mr_runV (As := []) (rest := [.int r]) X hH hR hroot OX12.1 kM_L_271 kI_X12_again kS_X12_again kN_X12 kC_X12_again hd_X12_again ⟨Nat.le_of_ble_eq_true rfl, Nat.le_of_ble_eq_true rfl⟩ rfl hl.1 (Nat.le_of_ble_eq_true rfl) (dk DL_law_20 26 rfl) ⟨room_le3 (c := cells + 161) (b := rm_X12_again.cells) (K := 601024) rfl hc, room_le3 (c := slots + 7887) (b := rm_X12_again.slots) (K := 7293034) rfl hs⟩) (fun r2 h2 H locs hp2 hH => ?_)
 replace hp2 : r2 = r ∧ h2 = oset LX12 G q x h1 := hp2
 obtain ⟨e1, e2⟩ := hp2
 subst e2
 refine lv_icmp_eq (tgt := 2497) X.x X.b (dk DL_law_20 27 rfl) (by decide) (fun _ => ?_) (fun z => absurd e1.symm z)
 exact kk _ _ _ _ hJ2 hH (lv_sub hl [0, 1, 2, 3, 4] rfl)
set_option maxHeartbeats 4000000 in
set_option maxRecDepth 100000 in
theorem lc_perform {p : Program} {l : Launch} {e : Env} {s : State} {m : MethodId} {args : Array Value} {below : List Frame} {meth : Method} {c : Code} {G : mG} {L : Nat} {xs : Nat → Int32} {bS a b ao : Nat} (X : mX G p m c code 8 s args RL) (hX : va_X bS L xs s s.heap) (hbl : bS < s.heap.size) (hbA : ¬ mA G bS) {J : mM → Prop} (hJa : ∀ m, J m → ∃ fs, m a = some (.inr (LX11.1, fs))) (hAg : Ag_perform l G J a b ao) {x4 A1 A2 A3 A4 A5 : Int32} (g1 : vp_in (x4 + 1) L ∧ xs (x4 + 1).toNatClampNeg = A1) (g2 : vp_in (x4 + 2) L ∧ xs (x4 + 2).toNatClampNeg = A2) (g3 : vp_in (x4 + 3) L ∧ xs (x4 + 3).toNatClampNeg = A3) (g4 : vp_in (x4 + 4) L ∧ xs (x4 + 4).toNatClampNeg = A4) (g5 : vp_in (x4 + 5) L ∧ xs (x4 + 5).toNatClampNeg = A5) {mm : mM} {H : Heap} {locs : List Loc} {ls : Array Slot} (hJ : J mm) (hH : mH G mm s.heap H locs) (hl : lv_has ls 8 [(0, .ref bS), (1, .ref a), (2, .ref b), (3, .ref ao), (4, .int x4)]) {cells slots : Nat} (hc : cells + 161 ≤ 601024) (hs : slots + 7887 ≤ 7293034) {Q : State → Prop}
    (kk : ∀ (mm : mM) (H : Heap) (locs : List Loc) (ls : Array Slot), J mm → mH G mm s.heap H locs → lv_has ls 8 [(0, .ref bS), (1, .ref a), (2, .ref b), (3, .ref ao), (4, .int x4)] → W p l e room_1 s m args below meth c H locs (cells + 161) (slots + 7887) Q (F0 m 2497 ls [])) :
    W p l e room_1 s m args below meth c H locs cells slots Q (F0 m 2117 ls []) := by
 refine lv_aload_n X.x X.b (dk DL_law_20 30 rfl) rfl (lv_at hl 1 rfl) ?_
 refine lv_aload_n X.x X.b (dk DL_law_20 31 rfl) rfl (lv_at hl 0 rfl) ?_
 refine lv_iload X.x X.b (dk DL_law_20 32 rfl) (lv_at hl 4 rfl) ?_
 refine lv_iconst (v := 1) X.x X.b (dk DL_law_20 33 rfl) (by decide) ?_
 refine lv_iadd X.x X.b (dk DL_law_20 34 rfl) ?_
 refine lw_sld X hH hX hbl hbA g1.1 g1.2 (dk DL_law_20 35 rfl) ?_
 refine lv_aload_n X.x X.b (dk DL_law_20 36 rfl) rfl (lv_at hl 3 rfl) ?_
 obtain ⟨Pm, hC, hP⟩ := hAg mm A1 hJ
 refine mr_xi hH (mr_hrunS (As := [.ref a, .int A1, .ref ao]) (rest := []) X hH hC kM_L_272 kT_L_perform kN_L kW_L_perform hd_L_perform ⟨Nat.le_of_ble_eq_true rfl, Nat.le_of_ble_eq_true rfl⟩ rfl hl.1 (Nat.le_of_ble_eq_true rfl) (dk DL_law_20 37 rfl) ⟨room_le1 (a := rm_L_perform.cells) (x := 161) (K := 601024) rfl (by omega), room_le1 (a := rm_L_perform.slots) (x := 7887) (K := 7293034) rfl (by omega)⟩) (fun E h1 q9 H locs hp hH hth => hp.elim) (fun r h1 H locs hp hH => ?_)
 obtain ⟨q, st, x, bv, fo, hqb, hq, hm, hF, hx2, hfo, hv, hJ2⟩ := hP r h1 hp
 refine W.widen (k := cells + 161) (n := slots + 7887) (room_le1 (a := rm_L_perform.cells) (x := 161) rfl (by omega)) (room_le1 (a := rm_L_perform.slots) (x := 7887) rfl (by omega)) ?_
 subst hqb
 have hR := c_X12_perform (l := l) (G := G) (h := h1) hq hF
 rw [hm] at hR
 have hroot := (oset_at (G := G) (st := st) (h := h1) hq (Nat.le_refl _) ohas_N).trans (congrArg some ocell_N)
 rw [hm] at hroot
 have hroot2 := (oset_at (G := G) (st := x) (h := h1) hq (Nat.le_refl _) ohas_N).trans (congrArg some ocell_N)
 refine lv_istore (lv' := [(5, .int r), (0, .ref bS), (1, .ref a), (2, .ref (q 53)), (3, .ref ao), (4, .int x4)]) X.x X.b (dk DL_law_20 38 rfl) hl (by decide) rfl (fun ls hl => ?_)
 replace hl : lv_has ls 8 [(0, .ref bS), (1, .ref a), (2, .ref (q 53)), (3, .ref ao), (4, .int x4), (5, .int r)] := lv_sub hl [1, 2, 3, 4, 5, 0] rfl
 refine lv_aload_n X.x X.b (dk DL_law_20 39 rfl) rfl (lv_at hl 2 rfl) ?_
 refine lv_aload_n X.x X.b (dk DL_law_20 40 rfl) rfl (lv_at hl 0 rfl) ?_
 refine lv_iload X.x X.b (dk DL_law_20 41 rfl) (lv_at hl 4 rfl) ?_
 refine lv_iconst (v := 1) X.x X.b (dk DL_law_20 42 rfl) (by decide) ?_
 refine lv_iadd X.x X.b (dk DL_law_20 43 rfl) ?_
 refine lw_sld X hH hX hbl hbA g1.1 g1.2 (dk DL_law_20 44 rfl) ?_
 refine mr_ci0 hH ⟨rfl, rfl⟩ (mr_runV (As := [.int A1]) (rest := []) X hH hR hroot OX12.1 kM_L_274 kI_X12_perform kS_X12_perform kN_X12 kC_X12_perform hd_X12_perform ⟨Nat.le_of_ble_eq_true rfl, Nat.le_of_ble_eq_true rfl⟩ rfl hl.1 (Nat.le_of_ble_eq_true rfl) (dk DL_law_20 45 rfl) ⟨room_le3 (c := cells + 161) (b := rm_X12_perform.cells) (K := 601024) rfl hc, room_le3 (c := slots + 7887) (b := rm_X12_perform.slots) (K := 7293034) rfl hs⟩) (fun r2 h2 H locs hp2 hH => ?_)
 replace hp2 : r2 = bv ∧ h2 = oset LX12 G q x h1 := hp2
 obtain ⟨e1, e2⟩ := hp2
 subst e2
 refine lv_istore (lv' := [(6, .int r2), (0, .ref bS), (1, .ref a), (2, .ref (q 53)), (3, .ref ao), (4, .int x4), (5, .int r)]) X.x X.b (dk DL_law_20 46 rfl) hl (by decide) rfl (fun ls hl => ?_)
 replace hl : lv_has ls 8 [(0, .ref bS), (1, .ref a), (2, .ref (q 53)), (3, .ref ao), (4, .int x4), (5, .int r), (6, .int r2)] := lv_sub hl [1, 2, 3, 4, 5, 6, 0] rfl
 refine lv_aload_n X.x X.b (dk DL_law_20 47 rfl) rfl (lv_at hl 2 rfl) ?_
 refine mr_ci0 hH ⟨rfl, rfl⟩ (mr_runV (As := []) (rest := []) X hH (c_X12_thrown (l := l) (G := G) (h := h1) hq (st := x) (x := x.1 2) rfl) hroot2 OX12.1 kM_L_128 kI_X12_thrown kS_X12_thrown kN_X12 kC_X12_thrown hd_X12_thrown ⟨Nat.le_of_ble_eq_true rfl, Nat.le_of_ble_eq_true rfl⟩ rfl hl.1 (Nat.le_of_ble_eq_true rfl) (dk DL_law_20 48 rfl) ⟨room_le3 (c := cells + 161) (b := rm_X12_thrown.cells) (K := 601024) rfl hc, room_le3 (c := slots + 7887) (b := rm_X12_thrown.slots) (K := 7293034) rfl hs⟩) (fun r3 h3 H locs hp3 hH => ?_)
 obtain ⟨e3, e4⟩ := hp3
 subst e4
 refine lv_iload X.x X.b (dk DL_law_20 49 rfl) (lv_at hl 5 rfl) ?_
 refine lv_icmp_eq (tgt := 2153) X.x X.b (dk DL_law_20 50 rfl) (by decide) (fun _ => ?_) (fun z => absurd (e3.trans hx2) z)
 refine lv_iload X.x X.b (dk DL_law_20 53 rfl) (lv_at hl 5 rfl) ?_
 refine lv_if_ne (tgt := 2170) X.x X.b (dk DL_law_20 54 rfl) (by decide) (fun c0 => ?_) (fun c0 => ?_)
 · refine lv_goto (tgt := 2497) X.x X.b (dk DL_law_21 4 rfl) (by decide) ?_
   exact kk _ _ _ _ hJ2 hH (lv_sub hl [0, 1, 2, 3, 4] rfl)
 · refine lv_aload_n X.x X.b (dk DL_law_20 55 rfl) rfl (lv_at hl 3 rfl) ?_
   refine lv_iconst (v := 0) X.x X.b (dk DL_law_20 56 rfl) (by decide) ?_
   have hr0 : r = 0 := by first | exact c0 | exact Decidable.not_not.mp c0
   refine mr_lald X hH hfo (show vp_in (nI 0) 1 from vp_in_nI (by decide) (by decide)) (dk DL_law_20 57 rfl) ?_
   rw [show ((0 : Int32).toNatClampNeg) = 0 from rfl]
   refine lv_iload X.x X.b (dk DL_law_20 58 rfl) (lv_at hl 6 rfl) ?_
   refine lv_i2l X.x X.b (dk DL_law_20 59 rfl) rfl ?_
   refine W.lcmp X.x X.b (dk DL_law_21 0 rfl) ?_
   refine lv_if_eq (tgt := 2170) X.x X.b (dk DL_law_21 1 rfl) (by decide) (fun _ => ?_) (fun z => absurd ((lg_cmp_eq _ _).mpr ((hv hr0).trans (by rw [e1]))) z)
   refine lv_goto (tgt := 2497) X.x X.b (dk DL_law_21 4 rfl) (by decide) ?_
   exact kk _ _ _ _ hJ2 hH (lv_sub hl [0, 1, 2, 3, 4] rfl)
set_option maxHeartbeats 4000000 in
set_option maxRecDepth 100000 in
theorem lc_tray {p : Program} {l : Launch} {e : Env} {s : State} {m : MethodId} {args : Array Value} {below : List Frame} {meth : Method} {c : Code} {G : mG} {L : Nat} {xs : Nat → Int32} {bS a b ao : Nat} (X : mX G p m c code 8 s args RL) (hX : va_X bS L xs s s.heap) (hbl : bS < s.heap.size) (hbA : ¬ mA G bS) {J : mM → Prop} (hJa : ∀ m, J m → ∃ fs, m a = some (.inr (LX11.1, fs))) (hAg : Ag_tray l G J a b ao) {x4 A1 A2 A3 A4 A5 : Int32} (g1 : vp_in (x4 + 1) L ∧ xs (x4 + 1).toNatClampNeg = A1) (g2 : vp_in (x4 + 2) L ∧ xs (x4 + 2).toNatClampNeg = A2) (g3 : vp_in (x4 + 3) L ∧ xs (x4 + 3).toNatClampNeg = A3) (g4 : vp_in (x4 + 4) L ∧ xs (x4 + 4).toNatClampNeg = A4) (g5 : vp_in (x4 + 5) L ∧ xs (x4 + 5).toNatClampNeg = A5) {mm : mM} {H : Heap} {locs : List Loc} {ls : Array Slot} (hJ : J mm) (hH : mH G mm s.heap H locs) (hl : lv_has ls 8 [(0, .ref bS), (1, .ref a), (2, .ref b), (3, .ref ao), (4, .int x4)]) {cells slots : Nat} (hc : cells + 161 ≤ 601024) (hs : slots + 7887 ≤ 7293034) {Q : State → Prop}
    (kk : ∀ (mm : mM) (H : Heap) (locs : List Loc) (ls : Array Slot), J mm → mH G mm s.heap H locs → lv_has ls 8 [(0, .ref bS), (1, .ref a), (2, .ref b), (3, .ref ao), (4, .int x4)] → W p l e room_1 s m args below meth c H locs (cells + 161) (slots + 7887) Q (F0 m 2497 ls [])) :
    W p l e room_1 s m args below meth c H locs cells slots Q (F0 m 2173 ls []) := by
 refine lv_aload_n X.x X.b (dk DL_law_21 5 rfl) rfl (lv_at hl 1 rfl) ?_
 refine lv_aload_n X.x X.b (dk DL_law_21 6 rfl) rfl (lv_at hl 0 rfl) ?_
 refine lv_iload X.x X.b (dk DL_law_21 7 rfl) (lv_at hl 4 rfl) ?_
 refine lv_iconst (v := 1) X.x X.b (dk DL_law_21 8 rfl) (by decide) ?_
 refine lv_iadd X.x X.b (dk DL_law_21 9 rfl) ?_
 refine lw_sld X hH hX hbl hbA g1.1 g1.2 (dk DL_law_21 10 rfl) ?_
 refine lv_aload_n X.x X.b (dk DL_law_21 11 rfl) rfl (lv_at hl 0 rfl) ?_
 refine lv_iload X.x X.b (dk DL_law_21 12 rfl) (lv_at hl 4 rfl) ?_
 refine lv_iconst (v := 2) X.x X.b (dk DL_law_21 13 rfl) (by decide) ?_
 refine lv_iadd X.x X.b (dk DL_law_21 14 rfl) ?_
 refine lw_sld X hH hX hbl hbA g2.1 g2.2 (dk DL_law_21 15 rfl) ?_
 refine lv_aload_n X.x X.b (dk DL_law_21 16 rfl) rfl (lv_at hl 0 rfl) ?_
 refine lv_iload X.x X.b (dk DL_law_21 17 rfl) (lv_at hl 4 rfl) ?_
 refine lv_iconst (v := 3) X.x X.b (dk DL_law_21 18 rfl) (by decide) ?_
 refine lv_iadd X.x X.b (dk DL_law_21 19 rfl) ?_
 refine lw_sld X hH hX hbl hbA g3.1 g3.2 (dk DL_law_21 20 rfl) ?_
 obtain ⟨Pm, hC, hP⟩ := hAg mm A1 A2 A3 hJ
 refine mr_xi hH (mr_hrunS (As := [.ref a, .int A1, .int A2, .int A3]) (rest := []) X hH hC kM_L_275 kT_L_tray kN_L kW_L_tray hd_L_tray ⟨Nat.le_of_ble_eq_true rfl, Nat.le_of_ble_eq_true rfl⟩ rfl hl.1 (Nat.le_of_ble_eq_true rfl) (dk DL_law_21 21 rfl) ⟨room_le1 (a := rm_L_tray.cells) (x := 5) (K := 601024) rfl (by omega), room_le1 (a := rm_L_tray.slots) (x := 203) (K := 7293034) rfl (by omega)⟩) (fun E h1 q9 H locs hp hH hth => hp.elim) (fun r h1 H locs hp hH => ?_)
 obtain ⟨q, st, x, hqb, hq, hm, hF, hx2, hJ2⟩ := hP r h1 hp
 refine W.widen (k := cells + 161) (n := slots + 7887) (room_le1 (a := rm_L_tray.cells) (x := 5) rfl (by omega)) (room_le1 (a := rm_L_tray.slots) (x := 203) rfl (by omega)) ?_
 subst hqb
 have hR := c_X12_tray (l := l) (G := G) (h := h1) hq hF
 rw [hm] at hR
 have hroot := (oset_at (G := G) (st := st) (h := h1) hq (Nat.le_refl _) ohas_N).trans (congrArg some ocell_N)
 rw [hm] at hroot
 have hroot2 := (oset_at (G := G) (st := x) (h := h1) hq (Nat.le_refl _) ohas_N).trans (congrArg some ocell_N)
 refine lv_istore (lv' := [(5, .int r), (0, .ref bS), (1, .ref a), (2, .ref (q 53)), (3, .ref ao), (4, .int x4)]) X.x X.b (dk DL_law_21 22 rfl) hl (by decide) rfl (fun ls hl => ?_)
 replace hl : lv_has ls 8 [(0, .ref bS), (1, .ref a), (2, .ref (q 53)), (3, .ref ao), (4, .int x4), (5, .int r)] := lv_sub hl [1, 2, 3, 4, 5, 0] rfl
 refine lv_aload_n X.x X.b (dk DL_law_21 23 rfl) rfl (lv_at hl 2 rfl) ?_
 refine lv_aload_n X.x X.b (dk DL_law_21 24 rfl) rfl (lv_at hl 0 rfl) ?_
 refine lv_iload X.x X.b (dk DL_law_21 25 rfl) (lv_at hl 4 rfl) ?_
 refine lv_iconst (v := 1) X.x X.b (dk DL_law_21 26 rfl) (by decide) ?_
 refine lv_iadd X.x X.b (dk DL_law_21 27 rfl) ?_
 refine lw_sld X hH hX hbl hbA g1.1 g1.2 (dk DL_law_21 28 rfl) ?_
 refine lv_aload_n X.x X.b (dk DL_law_21 29 rfl) rfl (lv_at hl 0 rfl) ?_
 refine lv_iload X.x X.b (dk DL_law_21 30 rfl) (lv_at hl 4 rfl) ?_
 refine lv_iconst (v := 2) X.x X.b (dk DL_law_21 31 rfl) (by decide) ?_
 refine lv_iadd X.x X.b (dk DL_law_21 32 rfl) ?_
 refine lw_sld X hH hX hbl hbA g2.1 g2.2 (dk DL_law_21 33 rfl) ?_
 refine lv_aload_n X.x X.b (dk DL_law_21 34 rfl) rfl (lv_at hl 0 rfl) ?_
 refine lv_iload X.x X.b (dk DL_law_21 35 rfl) (lv_at hl 4 rfl) ?_
 refine lv_iconst (v := 3) X.x X.b (dk DL_law_21 36 rfl) (by decide) ?_
 refine lv_iadd X.x X.b (dk DL_law_21 37 rfl) ?_
 refine lw_sld X hH hX hbl hbA g3.1 g3.2 (dk DL_law_21 38 rfl) ?_
 refine mr_cv0 hH ⟨rfl, rfl⟩ (mr_runV (As := [.int A1, .int A2, .int A3]) (rest := []) X hH hR hroot OX12.1 kM_L_278 kI_X12_tray kS_X12_tray kN_X12 kC_X12_tray hd_X12_tray ⟨Nat.le_of_ble_eq_true rfl, Nat.le_of_ble_eq_true rfl⟩ rfl hl.1 (Nat.le_of_ble_eq_true rfl) (dk DL_law_21 39 rfl) ⟨room_le3 (c := cells + 161) (b := rm_X12_tray.cells) (K := 601024) rfl hc, room_le3 (c := slots + 7887) (b := rm_X12_tray.slots) (K := 7293034) rfl hs⟩) (fun h2 H locs hp2 hH => ?_)
 replace hp2 : h2 = oset LX12 G q x h1 := hp2
 subst hp2
 refine lv_aload_n X.x X.b (dk DL_law_21 40 rfl) rfl (lv_at hl 2 rfl) ?_
 refine mr_ci0 hH ⟨rfl, rfl⟩ (mr_runV (As := []) (rest := []) X hH (c_X12_thrown (l := l) (G := G) (h := h1) hq (st := x) (x := x.1 2) rfl) hroot2 OX12.1 kM_L_128 kI_X12_thrown kS_X12_thrown kN_X12 kC_X12_thrown hd_X12_thrown ⟨Nat.le_of_ble_eq_true rfl, Nat.le_of_ble_eq_true rfl⟩ rfl hl.1 (Nat.le_of_ble_eq_true rfl) (dk DL_law_21 41 rfl) ⟨room_le3 (c := cells + 161) (b := rm_X12_thrown.cells) (K := 601024) rfl hc, room_le3 (c := slots + 7887) (b := rm_X12_thrown.slots) (K := 7293034) rfl hs⟩) (fun r3 h3 H locs hp3 hH => ?_)
 obtain ⟨e3, e4⟩ := hp3
 subst e4
 refine lv_iload X.x X.b (dk DL_law_21 42 rfl) (lv_at hl 5 rfl) ?_
 refine lv_icmp_eq (tgt := 2230) X.x X.b (dk DL_law_21 43 rfl) (by decide) (fun _ => ?_) (fun z => absurd (e3.trans hx2) z)
 refine lv_goto (tgt := 2497) X.x X.b (dk DL_law_21 46 rfl) (by decide) ?_
 exact kk _ _ _ _ hJ2 hH (lv_sub hl [0, 1, 2, 3, 4] rfl)
set_option maxHeartbeats 4000000 in
set_option maxRecDepth 100000 in
theorem lc_write {p : Program} {l : Launch} {e : Env} {s : State} {m : MethodId} {args : Array Value} {below : List Frame} {meth : Method} {c : Code} {G : mG} {L : Nat} {xs : Nat → Int32} {bS a b ao : Nat} (X : mX G p m c code 8 s args RL) (hX : va_X bS L xs s s.heap) (hbl : bS < s.heap.size) (hbA : ¬ mA G bS) {J : mM → Prop} (hJa : ∀ m, J m → ∃ fs, m a = some (.inr (LX11.1, fs))) (hAg : Ag_write l G J a b ao) {x4 A1 A2 A3 A4 A5 : Int32} (g1 : vp_in (x4 + 1) L ∧ xs (x4 + 1).toNatClampNeg = A1) (g2 : vp_in (x4 + 2) L ∧ xs (x4 + 2).toNatClampNeg = A2) (g3 : vp_in (x4 + 3) L ∧ xs (x4 + 3).toNatClampNeg = A3) (g4 : vp_in (x4 + 4) L ∧ xs (x4 + 4).toNatClampNeg = A4) (g5 : vp_in (x4 + 5) L ∧ xs (x4 + 5).toNatClampNeg = A5) {mm : mM} {H : Heap} {locs : List Loc} {ls : Array Slot} (hJ : J mm) (hH : mH G mm s.heap H locs) (hl : lv_has ls 8 [(0, .ref bS), (1, .ref a), (2, .ref b), (3, .ref ao), (4, .int x4)]) {cells slots : Nat} (hc : cells + 161 ≤ 601024) (hs : slots + 7887 ≤ 7293034) {Q : State → Prop}
    (kk : ∀ (mm : mM) (H : Heap) (locs : List Loc) (ls : Array Slot), J mm → mH G mm s.heap H locs → lv_has ls 8 [(0, .ref bS), (1, .ref a), (2, .ref b), (3, .ref ao), (4, .int x4)] → W p l e room_1 s m args below meth c H locs (cells + 161) (slots + 7887) Q (F0 m 2497 ls [])) :
    W p l e room_1 s m args below meth c H locs cells slots Q (F0 m 2233 ls []) := by
 refine lv_aload_n X.x X.b (dk DL_law_21 47 rfl) rfl (lv_at hl 1 rfl) ?_
 refine lv_aload_n X.x X.b (dk DL_law_21 48 rfl) rfl (lv_at hl 0 rfl) ?_
 refine lv_iload X.x X.b (dk DL_law_21 49 rfl) (lv_at hl 4 rfl) ?_
 refine lv_iconst (v := 1) X.x X.b (dk DL_law_21 50 rfl) (by decide) ?_
 refine lv_iadd X.x X.b (dk DL_law_21 51 rfl) ?_
 refine lw_sld X hH hX hbl hbA g1.1 g1.2 (dk DL_law_21 52 rfl) ?_
 refine lv_aload_n X.x X.b (dk DL_law_21 53 rfl) rfl (lv_at hl 0 rfl) ?_
 refine lv_iload X.x X.b (dk DL_law_21 54 rfl) (lv_at hl 4 rfl) ?_
 refine lv_iconst (v := 2) X.x X.b (dk DL_law_21 55 rfl) (by decide) ?_
 refine lv_iadd X.x X.b (dk DL_law_21 56 rfl) ?_
 refine lw_sld X hH hX hbl hbA g2.1 g2.2 (dk DL_law_21 57 rfl) ?_
 refine lv_aload_n X.x X.b (dk DL_law_21 58 rfl) rfl (lv_at hl 0 rfl) ?_
 refine lv_iload X.x X.b (dk DL_law_21 59 rfl) (lv_at hl 4 rfl) ?_
 refine lv_iconst (v := 3) X.x X.b (dk DL_law_22 0 rfl) (by decide) ?_
 refine lv_iadd X.x X.b (dk DL_law_22 1 rfl) ?_
 refine lw_sld X hH hX hbl hbA g3.1 g3.2 (dk DL_law_22 2 rfl) ?_
 refine lv_i2l X.x X.b (dk DL_law_22 3 rfl) rfl ?_
 refine lv_bipush (v := 32) X.x X.b (dk DL_law_22 4 rfl) (by decide) ?_
 refine lv_lshl X.x X.b (dk DL_law_22 5 rfl) rfl ?_
 refine lv_aload_n X.x X.b (dk DL_law_22 6 rfl) rfl (lv_at hl 0 rfl) ?_
 refine lv_iload X.x X.b (dk DL_law_22 7 rfl) (lv_at hl 4 rfl) ?_
 refine lv_iconst (v := 4) X.x X.b (dk DL_law_22 8 rfl) (by decide) ?_
 refine lv_iadd X.x X.b (dk DL_law_22 9 rfl) ?_
 refine lw_sld X hH hX hbl hbA g4.1 g4.2 (dk DL_law_22 10 rfl) ?_
 refine lv_i2l X.x X.b (dk DL_law_22 11 rfl) rfl ?_
 refine lv_ldc2 (v := 4294967295) X.x X.b X.ow (X.ts _ kK_L_149) (dk DL_law_22 12 rfl) ?_
 refine lv_land X.x X.b (dk DL_law_22 13 rfl) ?_
 refine lv_lor X.x X.b (dk DL_law_22 14 rfl) ?_
 refine lv_aload_n X.x X.b (dk DL_law_22 15 rfl) rfl (lv_at hl 3 rfl) ?_
 obtain ⟨Pm, hC, hP⟩ := hAg mm A1 A2 (((((A3 : Int32).toInt64 : Int64)) <<< ((32 : Int32).toInt64 &&& 63)) ||| (((A4 : Int32).toInt64) &&& 4294967295)) hJ
 refine mr_xi hH (mr_hrunS (As := [.ref a, .int A1, .int A2, .long (((((A3 : Int32).toInt64 : Int64)) <<< ((32 : Int32).toInt64 &&& 63)) ||| (((A4 : Int32).toInt64) &&& 4294967295)), .ref ao]) (rest := []) X hH hC kM_L_279 kT_L_write kN_L kW_L_write hd_L_write ⟨Nat.le_of_ble_eq_true rfl, Nat.le_of_ble_eq_true rfl⟩ rfl hl.1 (Nat.le_of_ble_eq_true rfl) (dk DL_law_22 16 rfl) ⟨room_le1 (a := rm_L_write.cells) (x := 2) (K := 601024) rfl (by omega), room_le1 (a := rm_L_write.slots) (x := 12) (K := 7293034) rfl (by omega)⟩) (fun E h1 q9 H locs hp hH hth => hp.elim) (fun r h1 H locs hp hH => ?_)
 obtain ⟨q, st, x, bv, fo, hqb, hq, hm, hF, hx2, hfo, hv, hJ2⟩ := hP r h1 hp
 refine W.widen (k := cells + 161) (n := slots + 7887) (room_le1 (a := rm_L_write.cells) (x := 2) rfl (by omega)) (room_le1 (a := rm_L_write.slots) (x := 12) rfl (by omega)) ?_
 subst hqb
 have hR := c_X12_write (l := l) (G := G) (h := h1) hq hF
 rw [hm] at hR
 have hroot := (oset_at (G := G) (st := st) (h := h1) hq (Nat.le_refl _) ohas_N).trans (congrArg some ocell_N)
 rw [hm] at hroot
 have hroot2 := (oset_at (G := G) (st := x) (h := h1) hq (Nat.le_refl _) ohas_N).trans (congrArg some ocell_N)
 refine lv_istore (lv' := [(5, .int r), (0, .ref bS), (1, .ref a), (2, .ref (q 53)), (3, .ref ao), (4, .int x4)]) X.x X.b (dk DL_law_22 17 rfl) hl (by decide) rfl (fun ls hl => ?_)
 replace hl : lv_has ls 8 [(0, .ref bS), (1, .ref a), (2, .ref (q 53)), (3, .ref ao), (4, .int x4), (5, .int r)] := lv_sub hl [1, 2, 3, 4, 5, 0] rfl
 refine lv_aload_n X.x X.b (dk DL_law_22 18 rfl) rfl (lv_at hl 2 rfl) ?_
 refine lv_aload_n X.x X.b (dk DL_law_22 19 rfl) rfl (lv_at hl 0 rfl) ?_
 refine lv_iload X.x X.b (dk DL_law_22 20 rfl) (lv_at hl 4 rfl) ?_
 refine lv_iconst (v := 1) X.x X.b (dk DL_law_22 21 rfl) (by decide) ?_
 refine lv_iadd X.x X.b (dk DL_law_22 22 rfl) ?_
 refine lw_sld X hH hX hbl hbA g1.1 g1.2 (dk DL_law_22 23 rfl) ?_
 refine lv_aload_n X.x X.b (dk DL_law_22 24 rfl) rfl (lv_at hl 0 rfl) ?_
 refine lv_iload X.x X.b (dk DL_law_22 25 rfl) (lv_at hl 4 rfl) ?_
 refine lv_iconst (v := 2) X.x X.b (dk DL_law_22 26 rfl) (by decide) ?_
 refine lv_iadd X.x X.b (dk DL_law_22 27 rfl) ?_
 refine lw_sld X hH hX hbl hbA g2.1 g2.2 (dk DL_law_22 28 rfl) ?_
 refine lv_aload_n X.x X.b (dk DL_law_22 29 rfl) rfl (lv_at hl 0 rfl) ?_
 refine lv_iload X.x X.b (dk DL_law_22 30 rfl) (lv_at hl 4 rfl) ?_
 refine lv_iconst (v := 3) X.x X.b (dk DL_law_22 31 rfl) (by decide) ?_
 refine lv_iadd X.x X.b (dk DL_law_22 32 rfl) ?_
 refine lw_sld X hH hX hbl hbA g3.1 g3.2 (dk DL_law_22 33 rfl) ?_
 refine lv_i2l X.x X.b (dk DL_law_22 34 rfl) rfl ?_
 refine lv_bipush (v := 32) X.x X.b (dk DL_law_22 35 rfl) (by decide) ?_
 refine lv_lshl X.x X.b (dk DL_law_22 36 rfl) rfl ?_
 refine lv_aload_n X.x X.b (dk DL_law_22 37 rfl) rfl (lv_at hl 0 rfl) ?_
 refine lv_iload X.x X.b (dk DL_law_22 38 rfl) (lv_at hl 4 rfl) ?_
 refine lv_iconst (v := 4) X.x X.b (dk DL_law_22 39 rfl) (by decide) ?_
 refine lv_iadd X.x X.b (dk DL_law_22 40 rfl) ?_
 refine lw_sld X hH hX hbl hbA g4.1 g4.2 (dk DL_law_22 41 rfl) ?_
 refine lv_i2l X.x X.b (dk DL_law_22 42 rfl) rfl ?_
 refine lv_ldc2 (v := 4294967295) X.x X.b X.ow (X.ts _ kK_L_149) (dk DL_law_22 43 rfl) ?_
 refine lv_land X.x X.b (dk DL_law_22 44 rfl) ?_
 refine lv_lor X.x X.b (dk DL_law_22 45 rfl) ?_
 refine mr_cl0 hH ⟨rfl, rfl⟩ (mr_runV (As := [.int A1, .int A2, .long (((((A3 : Int32).toInt64 : Int64)) <<< ((32 : Int32).toInt64 &&& 63)) ||| (((A4 : Int32).toInt64) &&& 4294967295))]) (rest := []) X hH hR hroot OX12.1 kM_L_282 kI_X12_write kS_X12_write kN_X12 kC_X12_write hd_X12_write ⟨Nat.le_of_ble_eq_true rfl, Nat.le_of_ble_eq_true rfl⟩ rfl hl.1 (Nat.le_of_ble_eq_true rfl) (dk DL_law_22 46 rfl) ⟨room_le3 (c := cells + 161) (b := rm_X12_write.cells) (K := 601024) rfl hc, room_le3 (c := slots + 7887) (b := rm_X12_write.slots) (K := 7293034) rfl hs⟩) (fun r2 h2 H locs hp2 hH => ?_)
 replace hp2 : r2 = bv ∧ h2 = oset LX12 G q x h1 := hp2
 obtain ⟨e1, e2⟩ := hp2
 subst e2
 refine lv_lstore (lv' := [(6, .long r2), (0, .ref bS), (1, .ref a), (2, .ref (q 53)), (3, .ref ao), (4, .int x4), (5, .int r)]) X.x X.b (dk DL_law_22 47 rfl) hl (by decide) rfl (fun ls hl => ?_)
 replace hl : lv_has ls 8 [(0, .ref bS), (1, .ref a), (2, .ref (q 53)), (3, .ref ao), (4, .int x4), (5, .int r), (6, .long r2)] := lv_sub hl [1, 2, 3, 4, 5, 6, 0] rfl
 refine lv_aload_n X.x X.b (dk DL_law_22 48 rfl) rfl (lv_at hl 2 rfl) ?_
 refine mr_ci0 hH ⟨rfl, rfl⟩ (mr_runV (As := []) (rest := []) X hH (c_X12_thrown (l := l) (G := G) (h := h1) hq (st := x) (x := x.1 2) rfl) hroot2 OX12.1 kM_L_128 kI_X12_thrown kS_X12_thrown kN_X12 kC_X12_thrown hd_X12_thrown ⟨Nat.le_of_ble_eq_true rfl, Nat.le_of_ble_eq_true rfl⟩ rfl hl.1 (Nat.le_of_ble_eq_true rfl) (dk DL_law_22 49 rfl) ⟨room_le3 (c := cells + 161) (b := rm_X12_thrown.cells) (K := 601024) rfl hc, room_le3 (c := slots + 7887) (b := rm_X12_thrown.slots) (K := 7293034) rfl hs⟩) (fun r3 h3 H locs hp3 hH => ?_)
 obtain ⟨e3, e4⟩ := hp3
 subst e4
 refine lv_iload X.x X.b (dk DL_law_22 50 rfl) (lv_at hl 5 rfl) ?_
 refine lv_icmp_eq (tgt := 2325) X.x X.b (dk DL_law_22 51 rfl) (by decide) (fun _ => ?_) (fun z => absurd (e3.trans hx2) z)
 refine lv_iload X.x X.b (dk DL_law_22 54 rfl) (lv_at hl 5 rfl) ?_
 refine lv_if_ne (tgt := 2341) X.x X.b (dk DL_law_22 55 rfl) (by decide) (fun c0 => ?_) (fun c0 => ?_)
 · refine lv_goto (tgt := 2497) X.x X.b (dk DL_law_23 4 rfl) (by decide) ?_
   exact kk _ _ _ _ hJ2 hH (lv_sub hl [0, 1, 2, 3, 4] rfl)
 · refine lv_aload_n X.x X.b (dk DL_law_22 56 rfl) rfl (lv_at hl 3 rfl) ?_
   refine lv_iconst (v := 0) X.x X.b (dk DL_law_22 57 rfl) (by decide) ?_
   have hr0 : r = 0 := by first | exact c0 | exact Decidable.not_not.mp c0
   refine mr_lald X hH hfo (show vp_in (nI 0) 1 from vp_in_nI (by decide) (by decide)) (dk DL_law_22 58 rfl) ?_
   rw [show ((0 : Int32).toNatClampNeg) = 0 from rfl]
   refine lv_lload X.x X.b (dk DL_law_22 59 rfl) (lv_at hl 6 rfl) ?_
   refine W.lcmp X.x X.b (dk DL_law_23 0 rfl) ?_
   refine lv_if_eq (tgt := 2341) X.x X.b (dk DL_law_23 1 rfl) (by decide) (fun _ => ?_) (fun z => absurd ((lg_cmp_eq _ _).mpr ((hv hr0).trans (by rw [e1]))) z)
   refine lv_goto (tgt := 2497) X.x X.b (dk DL_law_23 4 rfl) (by decide) ?_
   exact kk _ _ _ _ hJ2 hH (lv_sub hl [0, 1, 2, 3, 4] rfl)
set_option maxHeartbeats 4000000 in
set_option maxRecDepth 100000 in
theorem lc_pour {p : Program} {l : Launch} {e : Env} {s : State} {m : MethodId} {args : Array Value} {below : List Frame} {meth : Method} {c : Code} {G : mG} {L : Nat} {xs : Nat → Int32} {bS a b ao : Nat} (X : mX G p m c code 8 s args RL) (hX : va_X bS L xs s s.heap) (hbl : bS < s.heap.size) (hbA : ¬ mA G bS) {J : mM → Prop} (hJa : ∀ m, J m → ∃ fs, m a = some (.inr (LX11.1, fs))) (hAg : Ag_pour l G J a b ao) {x4 A1 A2 A3 A4 A5 : Int32} (g1 : vp_in (x4 + 1) L ∧ xs (x4 + 1).toNatClampNeg = A1) (g2 : vp_in (x4 + 2) L ∧ xs (x4 + 2).toNatClampNeg = A2) (g3 : vp_in (x4 + 3) L ∧ xs (x4 + 3).toNatClampNeg = A3) (g4 : vp_in (x4 + 4) L ∧ xs (x4 + 4).toNatClampNeg = A4) (g5 : vp_in (x4 + 5) L ∧ xs (x4 + 5).toNatClampNeg = A5) {mm : mM} {H : Heap} {locs : List Loc} {ls : Array Slot} (hJ : J mm) (hH : mH G mm s.heap H locs) (hl : lv_has ls 8 [(0, .ref bS), (1, .ref a), (2, .ref b), (3, .ref ao), (4, .int x4)]) {cells slots : Nat} (hc : cells + 161 ≤ 601024) (hs : slots + 7887 ≤ 7293034) {Q : State → Prop}
    (kk : ∀ (mm : mM) (H : Heap) (locs : List Loc) (ls : Array Slot), J mm → mH G mm s.heap H locs → lv_has ls 8 [(0, .ref bS), (1, .ref a), (2, .ref b), (3, .ref ao), (4, .int x4)] → W p l e room_1 s m args below meth c H locs (cells + 161) (slots + 7887) Q (F0 m 2497 ls [])) :
    W p l e room_1 s m args below meth c H locs cells slots Q (F0 m 2344 ls []) := by
 refine lv_aload_n X.x X.b (dk DL_law_23 5 rfl) rfl (lv_at hl 1 rfl) ?_
 refine lv_aload_n X.x X.b (dk DL_law_23 6 rfl) rfl (lv_at hl 0 rfl) ?_
 refine lv_iload X.x X.b (dk DL_law_23 7 rfl) (lv_at hl 4 rfl) ?_
 refine lv_iconst (v := 1) X.x X.b (dk DL_law_23 8 rfl) (by decide) ?_
 refine lv_iadd X.x X.b (dk DL_law_23 9 rfl) ?_
 refine lw_sld X hH hX hbl hbA g1.1 g1.2 (dk DL_law_23 10 rfl) ?_
 refine lv_aload_n X.x X.b (dk DL_law_23 11 rfl) rfl (lv_at hl 3 rfl) ?_
 obtain ⟨Pm, hC, hP⟩ := hAg mm A1 hJ
 refine mr_xi hH (mr_hrunS (As := [.ref a, .int A1, .ref ao]) (rest := []) X hH hC kM_L_283 kT_L_pour kN_L kW_L_pour hd_L_pour ⟨Nat.le_of_ble_eq_true rfl, Nat.le_of_ble_eq_true rfl⟩ rfl hl.1 (Nat.le_of_ble_eq_true rfl) (dk DL_law_23 12 rfl) ⟨room_le1 (a := rm_L_pour.cells) (x := 1) (K := 601024) rfl (by omega), room_le1 (a := rm_L_pour.slots) (x := 6) (K := 7293034) rfl (by omega)⟩) (fun E h1 q9 H locs hp hH hth => hp.elim) (fun r h1 H locs hp hH => ?_)
 obtain ⟨q, st, x, bv, fo, hqb, hq, hm, hF, hx2, hfo, hv, hJ2⟩ := hP r h1 hp
 refine W.widen (k := cells + 161) (n := slots + 7887) (room_le1 (a := rm_L_pour.cells) (x := 1) rfl (by omega)) (room_le1 (a := rm_L_pour.slots) (x := 6) rfl (by omega)) ?_
 subst hqb
 have hR := c_X12_pour (l := l) (G := G) (h := h1) hq hF
 rw [hm] at hR
 have hroot := (oset_at (G := G) (st := st) (h := h1) hq (Nat.le_refl _) ohas_N).trans (congrArg some ocell_N)
 rw [hm] at hroot
 have hroot2 := (oset_at (G := G) (st := x) (h := h1) hq (Nat.le_refl _) ohas_N).trans (congrArg some ocell_N)
 refine lv_istore (lv' := [(5, .int r), (0, .ref bS), (1, .ref a), (2, .ref (q 53)), (3, .ref ao), (4, .int x4)]) X.x X.b (dk DL_law_23 13 rfl) hl (by decide) rfl (fun ls hl => ?_)
 replace hl : lv_has ls 8 [(0, .ref bS), (1, .ref a), (2, .ref (q 53)), (3, .ref ao), (4, .int x4), (5, .int r)] := lv_sub hl [1, 2, 3, 4, 5, 0] rfl
 refine lv_aload_n X.x X.b (dk DL_law_23 14 rfl) rfl (lv_at hl 2 rfl) ?_
 refine lv_aload_n X.x X.b (dk DL_law_23 15 rfl) rfl (lv_at hl 0 rfl) ?_
 refine lv_iload X.x X.b (dk DL_law_23 16 rfl) (lv_at hl 4 rfl) ?_
 refine lv_iconst (v := 1) X.x X.b (dk DL_law_23 17 rfl) (by decide) ?_
 refine lv_iadd X.x X.b (dk DL_law_23 18 rfl) ?_
 refine lw_sld X hH hX hbl hbA g1.1 g1.2 (dk DL_law_23 19 rfl) ?_
 refine mr_ci0 hH ⟨rfl, rfl⟩ (mr_runV (As := [.int A1]) (rest := []) X hH hR hroot OX12.1 kM_L_285 kI_X12_pour kS_X12_pour kN_X12 kC_X12_pour hd_X12_pour ⟨Nat.le_of_ble_eq_true rfl, Nat.le_of_ble_eq_true rfl⟩ rfl hl.1 (Nat.le_of_ble_eq_true rfl) (dk DL_law_23 20 rfl) ⟨room_le3 (c := cells + 161) (b := rm_X12_pour.cells) (K := 601024) rfl hc, room_le3 (c := slots + 7887) (b := rm_X12_pour.slots) (K := 7293034) rfl hs⟩) (fun r2 h2 H locs hp2 hH => ?_)
 replace hp2 : r2 = bv ∧ h2 = oset LX12 G q x h1 := hp2
 obtain ⟨e1, e2⟩ := hp2
 subst e2
 refine lv_istore (lv' := [(6, .int r2), (0, .ref bS), (1, .ref a), (2, .ref (q 53)), (3, .ref ao), (4, .int x4), (5, .int r)]) X.x X.b (dk DL_law_23 21 rfl) hl (by decide) rfl (fun ls hl => ?_)
 replace hl : lv_has ls 8 [(0, .ref bS), (1, .ref a), (2, .ref (q 53)), (3, .ref ao), (4, .int x4), (5, .int r), (6, .int r2)] := lv_sub hl [1, 2, 3, 4, 5, 6, 0] rfl
 refine lv_aload_n X.x X.b (dk DL_law_23 22 rfl) rfl (lv_at hl 2 rfl) ?_
 refine mr_ci0 hH ⟨rfl, rfl⟩ (mr_runV (As := []) (rest := []) X hH (c_X12_thrown (l := l) (G := G) (h := h1) hq (st := x) (x := x.1 2) rfl) hroot2 OX12.1 kM_L_128 kI_X12_thrown kS_X12_thrown kN_X12 kC_X12_thrown hd_X12_thrown ⟨Nat.le_of_ble_eq_true rfl, Nat.le_of_ble_eq_true rfl⟩ rfl hl.1 (Nat.le_of_ble_eq_true rfl) (dk DL_law_23 23 rfl) ⟨room_le3 (c := cells + 161) (b := rm_X12_thrown.cells) (K := 601024) rfl hc, room_le3 (c := slots + 7887) (b := rm_X12_thrown.slots) (K := 7293034) rfl hs⟩) (fun r3 h3 H locs hp3 hH => ?_)
 obtain ⟨e3, e4⟩ := hp3
 subst e4
 refine lv_iload X.x X.b (dk DL_law_23 24 rfl) (lv_at hl 5 rfl) ?_
 refine lv_icmp_eq (tgt := 2380) X.x X.b (dk DL_law_23 25 rfl) (by decide) (fun _ => ?_) (fun z => absurd (e3.trans hx2) z)
 refine lv_iload X.x X.b (dk DL_law_23 28 rfl) (lv_at hl 5 rfl) ?_
 refine lv_if_ne (tgt := 2397) X.x X.b (dk DL_law_23 29 rfl) (by decide) (fun c0 => ?_) (fun c0 => ?_)
 · refine lv_goto (tgt := 2497) X.x X.b (dk DL_law_23 39 rfl) (by decide) ?_
   exact kk _ _ _ _ hJ2 hH (lv_sub hl [0, 1, 2, 3, 4] rfl)
 · refine lv_aload_n X.x X.b (dk DL_law_23 30 rfl) rfl (lv_at hl 3 rfl) ?_
   refine lv_iconst (v := 0) X.x X.b (dk DL_law_23 31 rfl) (by decide) ?_
   have hr0 : r = 0 := by first | exact c0 | exact Decidable.not_not.mp c0
   refine mr_lald X hH hfo (show vp_in (nI 0) 1 from vp_in_nI (by decide) (by decide)) (dk DL_law_23 32 rfl) ?_
   rw [show ((0 : Int32).toNatClampNeg) = 0 from rfl]
   refine lv_iload X.x X.b (dk DL_law_23 33 rfl) (lv_at hl 6 rfl) ?_
   refine lv_i2l X.x X.b (dk DL_law_23 34 rfl) rfl ?_
   refine W.lcmp X.x X.b (dk DL_law_23 35 rfl) ?_
   refine lv_if_eq (tgt := 2397) X.x X.b (dk DL_law_23 36 rfl) (by decide) (fun _ => ?_) (fun z => absurd ((lg_cmp_eq _ _).mpr ((hv hr0).trans (by rw [e1]))) z)
   refine lv_goto (tgt := 2497) X.x X.b (dk DL_law_23 39 rfl) (by decide) ?_
   exact kk _ _ _ _ hJ2 hH (lv_sub hl [0, 1, 2, 3, 4] rfl)
set_option maxHeartbeats 4000000 in
set_option maxRecDepth 100000 in
theorem lc_image {p : Program} {l : Launch} {e : Env} {s : State} {m : MethodId} {args : Array Value} {below : List Frame} {meth : Method} {c : Code} {G : mG} {L : Nat} {xs : Nat → Int32} {bS a b ao : Nat} (X : mX G p m c code 8 s args RL) (hX : va_X bS L xs s s.heap) (hbl : bS < s.heap.size) (hbA : ¬ mA G bS) {J : mM → Prop} (hJa : ∀ m, J m → ∃ fs, m a = some (.inr (LX11.1, fs))) (hAg : Ag_image l G J a b ao) {x4 A1 A2 A3 A4 A5 : Int32} (g1 : vp_in (x4 + 1) L ∧ xs (x4 + 1).toNatClampNeg = A1) (g2 : vp_in (x4 + 2) L ∧ xs (x4 + 2).toNatClampNeg = A2) (g3 : vp_in (x4 + 3) L ∧ xs (x4 + 3).toNatClampNeg = A3) (g4 : vp_in (x4 + 4) L ∧ xs (x4 + 4).toNatClampNeg = A4) (g5 : vp_in (x4 + 5) L ∧ xs (x4 + 5).toNatClampNeg = A5) {mm : mM} {H : Heap} {locs : List Loc} {ls : Array Slot} (hJ : J mm) (hH : mH G mm s.heap H locs) (hl : lv_has ls 8 [(0, .ref bS), (1, .ref a), (2, .ref b), (3, .ref ao), (4, .int x4)]) {cells slots : Nat} (hc : cells + 161 ≤ 601024) (hs : slots + 7887 ≤ 7293034) {Q : State → Prop}
    (kk : ∀ (mm : mM) (H : Heap) (locs : List Loc) (ls : Array Slot), J mm → mH G mm s.heap H locs → lv_has ls 8 [(0, .ref bS), (1, .ref a), (2, .ref b), (3, .ref ao), (4, .int x4)] → W p l e room_1 s m args below meth c H locs (cells + 161) (slots + 7887) Q (F0 m 2497 ls [])) :
    W p l e room_1 s m args below meth c H locs cells slots Q (F0 m 2400 ls []) := by
 refine lv_aload_n X.x X.b (dk DL_law_23 40 rfl) rfl (lv_at hl 1 rfl) ?_
 refine lv_aload_n X.x X.b (dk DL_law_23 41 rfl) rfl (lv_at hl 0 rfl) ?_
 refine lv_iload X.x X.b (dk DL_law_23 42 rfl) (lv_at hl 4 rfl) ?_
 refine lv_iconst (v := 1) X.x X.b (dk DL_law_23 43 rfl) (by decide) ?_
 refine lv_iadd X.x X.b (dk DL_law_23 44 rfl) ?_
 refine lw_sld X hH hX hbl hbA g1.1 g1.2 (dk DL_law_23 45 rfl) ?_
 obtain ⟨Pm, hC, hP⟩ := hAg mm A1 hJ
 refine mr_xi hH (mr_hrunS (As := [.ref a, .int A1]) (rest := []) X hH hC kM_L_286 kT_L_image kN_L kW_L_image hd_L_image ⟨Nat.le_of_ble_eq_true rfl, Nat.le_of_ble_eq_true rfl⟩ rfl hl.1 (Nat.le_of_ble_eq_true rfl) (dk DL_law_23 46 rfl) ⟨room_le1 (a := rm_L_image.cells) (x := 5) (K := 601024) rfl (by omega), room_le1 (a := rm_L_image.slots) (x := 203) (K := 7293034) rfl (by omega)⟩) (fun E h1 q9 H locs hp hH hth => hp.elim) (fun r h1 H locs hp hH => ?_)
 obtain ⟨q, st, x, hqb, hq, hm, hF, hx2, hJ2⟩ := hP r h1 hp
 refine W.widen (k := cells + 161) (n := slots + 7887) (room_le1 (a := rm_L_image.cells) (x := 5) rfl (by omega)) (room_le1 (a := rm_L_image.slots) (x := 203) rfl (by omega)) ?_
 subst hqb
 have hR := c_X12_image (l := l) (G := G) (h := h1) hq hF
 rw [hm] at hR
 have hroot := (oset_at (G := G) (st := st) (h := h1) hq (Nat.le_refl _) ohas_N).trans (congrArg some ocell_N)
 rw [hm] at hroot
 have hroot2 := (oset_at (G := G) (st := x) (h := h1) hq (Nat.le_refl _) ohas_N).trans (congrArg some ocell_N)
 refine lv_istore (lv' := [(5, .int r), (0, .ref bS), (1, .ref a), (2, .ref (q 53)), (3, .ref ao), (4, .int x4)]) X.x X.b (dk DL_law_23 47 rfl) hl (by decide) rfl (fun ls hl => ?_)
 replace hl : lv_has ls 8 [(0, .ref bS), (1, .ref a), (2, .ref (q 53)), (3, .ref ao), (4, .int x4), (5, .int r)] := lv_sub hl [1, 2, 3, 4, 5, 0] rfl
 refine lv_aload_n X.x X.b (dk DL_law_23 48 rfl) rfl (lv_at hl 2 rfl) ?_
 refine lv_aload_n X.x X.b (dk DL_law_23 49 rfl) rfl (lv_at hl 0 rfl) ?_
 refine lv_iload X.x X.b (dk DL_law_23 50 rfl) (lv_at hl 4 rfl) ?_
 refine lv_iconst (v := 1) X.x X.b (dk DL_law_23 51 rfl) (by decide) ?_
 refine lv_iadd X.x X.b (dk DL_law_23 52 rfl) ?_
 refine lw_sld X hH hX hbl hbA g1.1 g1.2 (dk DL_law_23 53 rfl) ?_
 refine mr_cv0 hH ⟨rfl, rfl⟩ (mr_runV (As := [.int A1]) (rest := []) X hH hR hroot OX12.1 kM_L_289 kI_X12_image kS_X12_image kN_X12 kC_X12_image hd_X12_image ⟨Nat.le_of_ble_eq_true rfl, Nat.le_of_ble_eq_true rfl⟩ rfl hl.1 (Nat.le_of_ble_eq_true rfl) (dk DL_law_23 54 rfl) ⟨room_le3 (c := cells + 161) (b := rm_X12_image.cells) (K := 601024) rfl hc, room_le3 (c := slots + 7887) (b := rm_X12_image.slots) (K := 7293034) rfl hs⟩) (fun h2 H locs hp2 hH => ?_)
 replace hp2 : h2 = oset LX12 G q x h1 := hp2
 subst hp2
 refine lv_aload_n X.x X.b (dk DL_law_23 55 rfl) rfl (lv_at hl 2 rfl) ?_
 refine mr_ci0 hH ⟨rfl, rfl⟩ (mr_runV (As := []) (rest := []) X hH (c_X12_thrown (l := l) (G := G) (h := h1) hq (st := x) (x := x.1 2) rfl) hroot2 OX12.1 kM_L_128 kI_X12_thrown kS_X12_thrown kN_X12 kC_X12_thrown hd_X12_thrown ⟨Nat.le_of_ble_eq_true rfl, Nat.le_of_ble_eq_true rfl⟩ rfl hl.1 (Nat.le_of_ble_eq_true rfl) (dk DL_law_23 56 rfl) ⟨room_le3 (c := cells + 161) (b := rm_X12_thrown.cells) (K := 601024) rfl hc, room_le3 (c := slots + 7887) (b := rm_X12_thrown.slots) (K := 7293034) rfl hs⟩) (fun r3 h3 H locs hp3 hH => ?_)
 obtain ⟨e3, e4⟩ := hp3
 subst e4
 refine lv_iload X.x X.b (dk DL_law_23 57 rfl) (lv_at hl 5 rfl) ?_
 refine lv_icmp_eq (tgt := 2433) X.x X.b (dk DL_law_23 58 rfl) (by decide) (fun _ => ?_) (fun z => absurd (e3.trans hx2) z)
 refine lv_goto (tgt := 2497) X.x X.b (dk DL_law_24 1 rfl) (by decide) ?_
 exact kk _ _ _ _ hJ2 hH (lv_sub hl [0, 1, 2, 3, 4] rfl)
set_option maxHeartbeats 4000000 in
set_option maxRecDepth 100000 in
theorem lc_restore {p : Program} {l : Launch} {e : Env} {s : State} {m : MethodId} {args : Array Value} {below : List Frame} {meth : Method} {c : Code} {G : mG} {L : Nat} {xs : Nat → Int32} {bS a b ao : Nat} (X : mX G p m c code 8 s args RL) (hX : va_X bS L xs s s.heap) (hbl : bS < s.heap.size) (hbA : ¬ mA G bS) {J : mM → Prop} (hJa : ∀ m, J m → ∃ fs, m a = some (.inr (LX11.1, fs))) (hAg : Ag_restore l G J a b ao) {x4 A1 A2 A3 A4 A5 : Int32} (g1 : vp_in (x4 + 1) L ∧ xs (x4 + 1).toNatClampNeg = A1) (g2 : vp_in (x4 + 2) L ∧ xs (x4 + 2).toNatClampNeg = A2) (g3 : vp_in (x4 + 3) L ∧ xs (x4 + 3).toNatClampNeg = A3) (g4 : vp_in (x4 + 4) L ∧ xs (x4 + 4).toNatClampNeg = A4) (g5 : vp_in (x4 + 5) L ∧ xs (x4 + 5).toNatClampNeg = A5) {mm : mM} {H : Heap} {locs : List Loc} {ls : Array Slot} (hJ : J mm) (hH : mH G mm s.heap H locs) (hl : lv_has ls 8 [(0, .ref bS), (1, .ref a), (2, .ref b), (3, .ref ao), (4, .int x4)]) {cells slots : Nat} (hc : cells + 161 ≤ 601024) (hs : slots + 7887 ≤ 7293034) {Q : State → Prop}
    (kk : ∀ (mm : mM) (H : Heap) (locs : List Loc) (ls : Array Slot), J mm → mH G mm s.heap H locs → lv_has ls 8 [(0, .ref bS), (1, .ref a), (2, .ref b), (3, .ref ao), (4, .int x4)] → W p l e room_1 s m args below meth c H locs (cells + 161) (slots + 7887) Q (F0 m 2497 ls [])) :
    W p l e room_1 s m args below meth c H locs cells slots Q (F0 m 2436 ls []) := by
 refine lv_aload_n X.x X.b (dk DL_law_24 2 rfl) rfl (lv_at hl 1 rfl) ?_
 refine lv_aload_n X.x X.b (dk DL_law_24 3 rfl) rfl (lv_at hl 0 rfl) ?_
 refine lv_iload X.x X.b (dk DL_law_24 4 rfl) (lv_at hl 4 rfl) ?_
 refine lv_iconst (v := 1) X.x X.b (dk DL_law_24 5 rfl) (by decide) ?_
 refine lv_iadd X.x X.b (dk DL_law_24 6 rfl) ?_
 refine lw_sld X hH hX hbl hbA g1.1 g1.2 (dk DL_law_24 7 rfl) ?_
 obtain ⟨Pm, hC, hP⟩ := hAg mm A1 hJ
 refine mr_xi hH (mr_hrunS (As := [.ref a, .int A1]) (rest := []) X hH hC kM_L_290 kT_L_restore kN_L kW_L_restore hd_L_restore ⟨Nat.le_of_ble_eq_true rfl, Nat.le_of_ble_eq_true rfl⟩ rfl hl.1 (Nat.le_of_ble_eq_true rfl) (dk DL_law_24 8 rfl) ⟨room_le1 (a := rm_L_restore.cells) (x := 1) (K := 601024) rfl (by omega), room_le1 (a := rm_L_restore.slots) (x := 6) (K := 7293034) rfl (by omega)⟩) (fun E h1 q9 H locs hp hH hth => hp.elim) (fun r h1 H locs hp hH => ?_)
 obtain ⟨q, st, x, hqb, hq, hm, hF, hx2, hJ2⟩ := hP r h1 hp
 refine W.widen (k := cells + 161) (n := slots + 7887) (room_le1 (a := rm_L_restore.cells) (x := 1) rfl (by omega)) (room_le1 (a := rm_L_restore.slots) (x := 6) rfl (by omega)) ?_
 subst hqb
 have hR := c_X12_restore (l := l) (G := G) (h := h1) hq hF
 rw [hm] at hR
 have hroot := (oset_at (G := G) (st := st) (h := h1) hq (Nat.le_refl _) ohas_N).trans (congrArg some ocell_N)
 rw [hm] at hroot
 have hroot2 := (oset_at (G := G) (st := x) (h := h1) hq (Nat.le_refl _) ohas_N).trans (congrArg some ocell_N)
 refine lv_istore (lv' := [(5, .int r), (0, .ref bS), (1, .ref a), (2, .ref (q 53)), (3, .ref ao), (4, .int x4)]) X.x X.b (dk DL_law_24 9 rfl) hl (by decide) rfl (fun ls hl => ?_)
 replace hl : lv_has ls 8 [(0, .ref bS), (1, .ref a), (2, .ref (q 53)), (3, .ref ao), (4, .int x4), (5, .int r)] := lv_sub hl [1, 2, 3, 4, 5, 0] rfl
 refine lv_aload_n X.x X.b (dk DL_law_24 10 rfl) rfl (lv_at hl 2 rfl) ?_
 refine lv_aload_n X.x X.b (dk DL_law_24 11 rfl) rfl (lv_at hl 0 rfl) ?_
 refine lv_iload X.x X.b (dk DL_law_24 12 rfl) (lv_at hl 4 rfl) ?_
 refine lv_iconst (v := 1) X.x X.b (dk DL_law_24 13 rfl) (by decide) ?_
 refine lv_iadd X.x X.b (dk DL_law_24 14 rfl) ?_
 refine lw_sld X hH hX hbl hbA g1.1 g1.2 (dk DL_law_24 15 rfl) ?_
 refine mr_cv0 hH ⟨rfl, rfl⟩ (mr_runV (As := [.int A1]) (rest := []) X hH hR hroot OX12.1 kM_L_292 kI_X12_restore kS_X12_restore kN_X12 kC_X12_restore hd_X12_restore ⟨Nat.le_of_ble_eq_true rfl, Nat.le_of_ble_eq_true rfl⟩ rfl hl.1 (Nat.le_of_ble_eq_true rfl) (dk DL_law_24 16 rfl) ⟨room_le3 (c := cells + 161) (b := rm_X12_restore.cells) (K := 601024) rfl hc, room_le3 (c := slots + 7887) (b := rm_X12_restore.slots) (K := 7293034) rfl hs⟩) (fun h2 H locs hp2 hH => ?_)
 replace hp2 : h2 = oset LX12 G q x h1 := hp2
 subst hp2
 refine lv_aload_n X.x X.b (dk DL_law_24 17 rfl) rfl (lv_at hl 2 rfl) ?_
 refine mr_ci0 hH ⟨rfl, rfl⟩ (mr_runV (As := []) (rest := []) X hH (c_X12_thrown (l := l) (G := G) (h := h1) hq (st := x) (x := x.1 2) rfl) hroot2 OX12.1 kM_L_128 kI_X12_thrown kS_X12_thrown kN_X12 kC_X12_thrown hd_X12_thrown ⟨Nat.le_of_ble_eq_true rfl, Nat.le_of_ble_eq_true rfl⟩ rfl hl.1 (Nat.le_of_ble_eq_true rfl) (dk DL_law_24 18 rfl) ⟨room_le3 (c := cells + 161) (b := rm_X12_thrown.cells) (K := 601024) rfl hc, room_le3 (c := slots + 7887) (b := rm_X12_thrown.slots) (K := 7293034) rfl hs⟩) (fun r3 h3 H locs hp3 hH => ?_)
 obtain ⟨e3, e4⟩ := hp3
 subst e4
 refine lv_iload X.x X.b (dk DL_law_24 19 rfl) (lv_at hl 5 rfl) ?_
 refine lv_icmp_eq (tgt := 2469) X.x X.b (dk DL_law_24 20 rfl) (by decide) (fun _ => ?_) (fun z => absurd (e3.trans hx2) z)
 refine lv_goto (tgt := 2497) X.x X.b (dk DL_law_24 23 rfl) (by decide) ?_
 exact kk _ _ _ _ hJ2 hH (lv_sub hl [0, 1, 2, 3, 4] rfl)
set_option maxHeartbeats 4000000 in
set_option maxRecDepth 100000 in
theorem lc_count {p : Program} {l : Launch} {e : Env} {s : State} {m : MethodId} {args : Array Value} {below : List Frame} {meth : Method} {c : Code} {G : mG} {L : Nat} {xs : Nat → Int32} {bS a b ao : Nat} (X : mX G p m c code 8 s args RL) (hX : va_X bS L xs s s.heap) (hbl : bS < s.heap.size) (hbA : ¬ mA G bS) {J : mM → Prop} (hJa : ∀ m, J m → ∃ fs, m a = some (.inr (LX11.1, fs))) (hAg : Ag_count l G J a b ao) {x4 A1 A2 A3 A4 A5 : Int32} (g1 : vp_in (x4 + 1) L ∧ xs (x4 + 1).toNatClampNeg = A1) (g2 : vp_in (x4 + 2) L ∧ xs (x4 + 2).toNatClampNeg = A2) (g3 : vp_in (x4 + 3) L ∧ xs (x4 + 3).toNatClampNeg = A3) (g4 : vp_in (x4 + 4) L ∧ xs (x4 + 4).toNatClampNeg = A4) (g5 : vp_in (x4 + 5) L ∧ xs (x4 + 5).toNatClampNeg = A5) {mm : mM} {H : Heap} {locs : List Loc} {ls : Array Slot} (hJ : J mm) (hH : mH G mm s.heap H locs) (hl : lv_has ls 8 [(0, .ref bS), (1, .ref a), (2, .ref b), (3, .ref ao), (4, .int x4)]) {cells slots : Nat} (hc : cells + 161 ≤ 601024) (hs : slots + 7887 ≤ 7293034) {Q : State → Prop}
    (kk : ∀ (mm : mM) (H : Heap) (locs : List Loc) (ls : Array Slot), J mm → mH G mm s.heap H locs → lv_has ls 8 [(0, .ref bS), (1, .ref a), (2, .ref b), (3, .ref ao), (4, .int x4)] → W p l e room_1 s m args below meth c H locs (cells + 161) (slots + 7887) Q (F0 m 2497 ls [])) :
    W p l e room_1 s m args below meth c H locs cells slots Q (F0 m 2472 ls []) := by
 refine lv_aload_n X.x X.b (dk DL_law_24 24 rfl) rfl (lv_at hl 1 rfl) ?_
 refine lv_aload_n X.x X.b (dk DL_law_24 25 rfl) rfl (lv_at hl 0 rfl) ?_
 refine lv_iload X.x X.b (dk DL_law_24 26 rfl) (lv_at hl 4 rfl) ?_
 refine lv_iconst (v := 1) X.x X.b (dk DL_law_24 27 rfl) (by decide) ?_
 refine lv_iadd X.x X.b (dk DL_law_24 28 rfl) ?_
 refine lw_sld X hH hX hbl hbA g1.1 g1.2 (dk DL_law_24 29 rfl) ?_
 obtain ⟨Pm, hC, hP⟩ := hAg mm A1 hJ
 obtain ⟨fs, ha⟩ := hJa mm hJ
 refine mr_ci hH (mr_runV (As := [.int A1]) (rest := []) X hH hC ha OX11.1 kM_L_293 kI_X11_count kS_X11_count kN_X11 kC_X11_count hd_X11_count ⟨Nat.le_of_ble_eq_true rfl, Nat.le_of_ble_eq_true rfl⟩ rfl hl.1 (Nat.le_of_ble_eq_true rfl) (dk DL_law_24 30 rfl) ⟨room_le1 (a := rm_X11_count.cells) (x := 0) (K := 601024) rfl (by omega), room_le1 (a := rm_X11_count.slots) (x := 0) (K := 7293034) rfl (by omega)⟩) (fun r h1 H locs hp hH => ?_)
 obtain ⟨q, st, x, hqb, hq, hm, hF, hJ2⟩ := hP r h1 hp
 refine W.widen (k := cells + 161) (n := slots + 7887) (room_le1 (a := rm_X11_count.cells) (x := 0) rfl (by omega)) (room_le1 (a := rm_X11_count.slots) (x := 0) rfl (by omega)) ?_
 subst hqb
 have hR := c_X12_count (l := l) (G := G) (h := h1) hq hF
 rw [hm] at hR
 have hroot := (oset_at (G := G) (st := st) (h := h1) hq (Nat.le_refl _) ohas_N).trans (congrArg some ocell_N)
 rw [hm] at hroot
 have hroot2 := (oset_at (G := G) (st := x) (h := h1) hq (Nat.le_refl _) ohas_N).trans (congrArg some ocell_N)
 refine lv_aload_n X.x X.b (dk DL_law_24 31 rfl) rfl (lv_at hl 2 rfl) ?_
 refine lv_aload_n X.x X.b (dk DL_law_24 32 rfl) rfl (lv_at hl 0 rfl) ?_
 refine lv_iload X.x X.b (dk DL_law_24 33 rfl) (lv_at hl 4 rfl) ?_
 refine lv_iconst (v := 1) X.x X.b (dk DL_law_24 34 rfl) (by decide) ?_
 refine lv_iadd X.x X.b (dk DL_law_24 35 rfl) ?_
 refine lw_sld X hH hX hbl hbA g1.1 g1.2 (dk DL_law_24 36 rfl) ?_
 refine mr_ci0 hH ⟨rfl, rfl⟩ (mr_runV (As := [.int A1]) (rest := [.int r]) X hH hR hroot OX12.1 kM_L_296 kI_X12_count kS_X12_count kN_X12 kC_X12_count hd_X12_count ⟨Nat.le_of_ble_eq_true rfl, Nat.le_of_ble_eq_true rfl⟩ rfl hl.1 (Nat.le_of_ble_eq_true rfl) (dk DL_law_24 37 rfl) ⟨room_le3 (c := cells + 161) (b := rm_X12_count.cells) (K := 601024) rfl hc, room_le3 (c := slots + 7887) (b := rm_X12_count.slots) (K := 7293034) rfl hs⟩) (fun r2 h2 H locs hp2 hH => ?_)
 replace hp2 : r2 = r ∧ h2 = oset LX12 G q x h1 := hp2
 obtain ⟨e1, e2⟩ := hp2
 subst e2
 refine lv_icmp_eq (tgt := 2497) X.x X.b (dk DL_law_24 38 rfl) (by decide) (fun _ => ?_) (fun z => absurd e1.symm z)
 exact kk _ _ _ _ hJ2 hH (lv_sub hl [0, 1, 2, 3, 4] rfl)
