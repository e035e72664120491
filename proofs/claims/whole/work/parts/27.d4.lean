theorem actM_le {row : List Int64} {k : Nat} {s : Wst} (hk : k < row.length) : k + (actM row k s).1 ≤ row.length := by
  unfold actM
  split
  · split
    · show k + 0 ≤ _; omega
    · rename_i set e h
      have := told_e _ _ _ _ _ h
      split
      · show k + 0 ≤ _; omega
      · split
        · show k + 0 ≤ _; omega
        · show k + (e - k) ≤ _; omega
  · split
    · split
      · rename_i h; show k + 2 ≤ _; omega
      · show k + 0 ≤ _; omega
    · split
      · split
        · rename_i h; show k + 2 ≤ _; omega
        · show k + 0 ≤ _; omega
      · split
        · show k + 1 ≤ _; omega
        · split
          · split
            · show k + 0 ≤ _; omega
            · show k + 1 ≤ _; omega
          · split
            · split
              · show k + 0 ≤ _; omega
              · show k + 1 ≤ _; omega
            · show k + 0 ≤ _; omega
/-- trays and what they hold -/
def TRS (G : mG) (ow : Nat → Nat) (m : mM) (ft : Nat → Option Nat) (tc : Nat → Option (Nat × List Int64)) : Prop := (∀ j, ft j = none → tc j = none) ∧ ∀ j a, ft j = some a → ∃ (qy : Nat → Nat) (sty : OS) (so : Nat) (row : List Int64), tc j = some (so, row) ∧ qy 3 = a ∧ At G ow m LX7 qy sty ∧ TrC sty so row
/-- images and what they hold -/
def IMS (G : mG) (ow : Nat → Nat) (m : mM) (fi : Nat → Option Nat) (ic : Nat → Option Wd) : Prop := (∀ j, fi j = none → ic j = none) ∧ ∀ j a, fi j = some a → ∃ (qy : Nat → Nat) (sty : OS) (w : Wd), ic j = some w ∧ qy 5 = a ∧ At G ow m LX10 qy sty ∧ CW sty w
theorem actM_0 {row : List Int64} {k : Nat} {s : Wst} (h : (actM row k s).1 = 0) : (actM row k s).2 = s := by
  revert h
  unfold actM
  split
  · split
    · exact fun _ => rfl
    · rename_i set e h
      have := told_e _ _ _ _ _ h
      split
      · exact fun _ => rfl
      · split
        · exact fun _ => rfl
        · intro h; exfalso; revert h; show ¬ e - k = 0; omega
  · split
    · split
      · intro h; cases h
      · exact fun _ => rfl
    · split
      · split
        · intro h; cases h
        · exact fun _ => rfl
      · split
        · intro h; cases h
        · split
          · split
            · exact fun _ => rfl
            · intro h; cases h
          · split
            · split
              · exact fun _ => rfl
              · intro h; cases h
            · exact fun _ => rfl
theorem CoreP.trn {G : mG} {qt qn qd qh : Nat → Nat} {ow : Nat → Nat} {m : mM} {S : Nat → Prop} {m1 m2 : mM} {w2 : Wd} {bw2 aw2 : List Wd} {ow1 : Nat → Nat} {S1 : Nat → Prop} (hF : FrA G S ow m ow1 m1) (hS : ∀ r, S1 r → S r ∨ m r = none) (k : CoreP G qt qn qd qh ow1 m1 S1 m2 w2 bw2 aw2) : CoreP G qt qn qd qh ow m S m2 w2 bw2 aw2 := by
  obtain ⟨ow2, S2, hC2, hF2, hS2⟩ := k
  refine ⟨ow2, S2, hC2, hF.tr hF2 hS, fun r z => ?_⟩
  rcases hS2 r z with h | h
  · exact hS r h
  · refine Or.inr ?_
    false_or_by_contra
    rename_i h2
    exact hF.2.2 r h2 h
set_option maxHeartbeats 4000000 in
set_option maxRecDepth 100000 in
theorem w_X11_perform_11 {p : Program} {l : Launch} {e : Env} {R : Room} {s : State} {m9 : MethodId} {args : Array Value} {below : List Frame} {meth : Method} {c : Code} {Q : State → Prop} {G : mG} {qt qn qd qh qy : Nat → Nat} {sty : OS} {so : Nat} {row : List Int64} (ht : TrC sty so row) (X : mX G p m9 c cX11_perform 6 s args RX11) (hR : 10 ≤ R.frames ∧ 220 ≤ R.locals ∧ 161 ≤ R.cells ∧ 7887 ≤ R.slots) :
    ∀ (f t k : Nat) (ow : Nat → Nat) (m : mM) (w : Wd) (bw aw : List Wd) (S : Nat → Prop), Core G qt qn qd qh ow m w bw aw S → At G ow m LX7 qy sty → t + f = 40 → k ≤ row.length → (∀ (m1 : mM), CoreP G qt qn qd qh ow m S m1 (perfM row f k (w, bw, aw)).2.1 (perfM row f k (w, bw, aw)).2.2.1 (perfM row f k (w, bw, aw)).2.2.2 → ∀ (H : Heap) (locs : List Loc) (ls : Array Slot) (cells slots : Nat), cells ≤ 161 → slots ≤ 7887 → mH G m1 s.heap H locs → lv_has ls 6 [(3, .int (nI (perfM row f k (w, bw, aw)).1))] → W p l e R s m9 args below meth c H locs cells slots Q (F0 m9 53 ls [])) → ∀ (H : Heap) (locs : List Loc) (ls : Array Slot) (cells slots : Nat), cells + 4 * f ≤ 161 → slots + 197 * f ≤ 7886 → mH G m s.heap H locs → lv_has ls 6 [(0, .ref (qt 10)), (2, .ref (qy 3)), (3, .int (nI k)), (4, .int (nI t))] → W p l e R s m9 args below meth c H locs cells slots Q (F0 m9 11 ls []) := by
  have hr40 := ht.2.2.2.1
  intro f
  induction f with
  | zero =>
    intro t k ow m w bw aw S hC hy htf hkr K H locs ls cells slots hc1 hs1 hH hl
    obtain ⟨stt, stn, std, fb, fa, bs, as, hT, hn, hw, hd, hS, hb, ha, hx, hk, hSS⟩ := id hC
    refine lv_iload X.x X.b (dk DX11_perform_0 8 rfl) (lv_at hl 3 rfl) ?_
    refine lv_bipush (v := 40) X.x X.b (dk DX11_perform_0 9 rfl) (by decide) ?_
    refine lv_icmp_ge (tgt := 53) X.x X.b (dk DX11_perform_0 10 rfl) (by decide) (fun _ => ?_) (fun z => absurd (show (40 : Int32) ≤ nI t from by rw [show t = 40 by omega]; exact nI_le (a := 40) (b := 40) (by decide) (by decide)) z)
    exact K m (by unfold perfM; exact CoreP.rf hC) H locs ls _ _ (by omega) (by omega) hH (by unfold perfM; exact lv_sub hl [2] rfl)
  | succ f ih9 =>
    intro t k ow m w bw aw S hC hy htf hkr K H locs ls cells slots hc1 hs1 hH hl
    obtain ⟨stt, stn, std, fb, fa, bs, as, hT, hn, hw, hd, hS, hb, ha, hx, hk, hSS⟩ := id hC
    refine lv_iload X.x X.b (dk DX11_perform_0 8 rfl) (lv_at hl 3 rfl) ?_
    refine lv_bipush (v := 40) X.x X.b (dk DX11_perform_0 9 rfl) (by decide) ?_
    refine lv_icmp_ge (tgt := 53) X.x X.b (dk DX11_perform_0 10 rfl) (by decide) (fun z => absurd z (show ¬ (40 : Int32) ≤ nI t from nI_ge (a := t) (b := 40) (by omega) (by decide))) (fun _ => ?_)
    refine lv_iload_n X.x X.b (dk DX11_perform_0 11 rfl) rfl (lv_at hl 2 rfl) ?_
    refine lv_aload_n X.x X.b (dk DX11_perform_0 12 rfl) rfl (lv_at hl 1 rfl) ?_
    refine ag_getIN OX7 X hy hH 1 (by decide) rfl kFN_X11_284 (dk DX11_perform_0 13 rfl) ?_
    rw [ht.2.2.1]
    refine lv_icmp_ge (tgt := 53) X.x X.b (dk DX11_perform_0 14 rfl) (by decide) (fun c => ?_) (fun c => ?_)
    · have hk2 : row.length ≤ k := by
        rcases Nat.lt_or_ge k row.length with h | h
        · exact absurd c (nI_ge h (by omega))
        · exact h
      have hA : perfM row (f + 1) k (w, bw, aw) = (k, (w, bw, aw)) := by
        unfold perfM
        rw [if_pos hk2]
      exact K m (by rw [hA]; exact CoreP.rf hC) H locs ls _ _ (by omega) (by omega) hH (by rw [hA]; exact lv_sub hl [2] rfl)
    · have hk2 : k < row.length := by
        rcases Nat.lt_or_ge k row.length with h | h
        · exact h
        · exact absurd (nI_le h (by omega)) c
      refine lv_aload_n X.x X.b (dk DX11_perform_0 15 rfl) rfl (lv_at hl 0 rfl) ?_
      refine lv_aload_n X.x X.b (dk DX11_perform_0 16 rfl) rfl (lv_at hl 1 rfl) ?_
      refine lv_iload_n X.x X.b (dk DX11_perform_0 17 rfl) rfl (lv_at hl 2 rfl) ?_
      refine mr_ci hH (mr_runV (As := [.ref (qy 3), .int (nI k)]) (rest := []) X hH (c_X11_actAt hC hy ht hk2) hT.root OX11.1 kM_X11_287 kI_X11_actAt kS_X11_actAt kN_X11 kC_X11_actAt hd_X11_actAt ⟨Nat.le_trans (Nat.le_of_ble_eq_true rfl) hR.1, Nat.le_trans (Nat.le_of_ble_eq_true rfl) hR.2.1⟩ rfl hl.1 (Nat.le_of_ble_eq_true rfl) (dk DX11_perform_0 18 rfl) ⟨by have := hR.2.2.1; show cells + 4 ≤ _; omega, by have := hR.2.2.2; show slots + 197 ≤ _; omega⟩) (fun r m1 H locs hp hH => ?_)
      have hP := hp.st hC
      rw [hp.1]
      refine lv_istore (lv' := [(5, .int (nI (actM row k (w, bw, aw)).1)), (0, .ref (qt 10)), (2, .ref (qy 3)), (3, .int (nI k)), (4, .int (nI t))]) X.x X.b (dk DX11_perform_0 19 rfl) hl (by decide) rfl (fun ls hl => ?_)
      replace hl : lv_has ls 6 [(0, .ref (qt 10)), (2, .ref (qy 3)), (3, .int (nI k)), (4, .int (nI t)), (5, .int (nI (actM row k (w, bw, aw)).1))] := lv_sub hl [1, 2, 3, 4, 0] rfl
      refine lv_iload X.x X.b (dk DX11_perform_0 20 rfl) (lv_at hl 4 rfl) ?_
      have hle := actM_le (s := (w, bw, aw)) hk2
      refine lv_if_ne (tgt := 42) X.x X.b (dk DX11_perform_0 21 rfl) (by decide) (fun c2 => ?_) (fun c2 => ?_)
      · have h0 : (actM row k (w, bw, aw)).1 ≠ 0 := fun z => c2 (by rw [z]; exact nI_0)
        have hA : perfM row (f + 1) k (w, bw, aw) = perfM row f (k + (actM row k (w, bw, aw)).1) (actM row k (w, bw, aw)).2 := by
          conv => lhs; unfold perfM
          rw [if_neg (by omega), if_neg h0]
        refine lv_iload_n X.x X.b (dk DX11_perform_0 23 rfl) rfl (lv_at hl 2 rfl) ?_
        refine lv_iload X.x X.b (dk DX11_perform_0 24 rfl) (lv_at hl 4 rfl) ?_
        refine lv_iadd X.x X.b (dk DX11_perform_0 25 rfl) ?_
        rw [nI_add]
        refine lv_istore_n (lv' := [(3, .int (nI (k + (actM row k (w, bw, aw)).1))), (0, .ref (qt 10)), (2, .ref (qy 3)), (4, .int (nI t)), (5, .int (nI (actM row k (w, bw, aw)).1))]) X.x X.b (dk DX11_perform_0 26 rfl) rfl hl (by decide) rfl (fun ls hl => ?_)
        replace hl : lv_has ls 6 [(0, .ref (qt 10)), (2, .ref (qy 3)), (3, .int (nI (k + (actM row k (w, bw, aw)).1))), (4, .int (nI t))] := lv_sub hl [1, 2, 0, 3] rfl
        refine lv_iinc (v := nI (t + 1)) (lv' := [(4, .int (nI (t + 1))), (0, .ref (qt 10)), (2, .ref (qy 3)), (3, .int (nI (k + (actM row k (w, bw, aw)).1)))]) X.x X.b (dk DX11_perform_0 27 rfl) hl (k := 3) rfl (by rw [← nI_1]; rfl) (by decide) rfl (fun ls hl => ?_)
        replace hl : lv_has ls 6 [(0, .ref (qt 10)), (2, .ref (qy 3)), (3, .int (nI (k + (actM row k (w, bw, aw)).1))), (4, .int (nI (t + 1)))] := lv_sub hl [1, 2, 3, 0] rfl
        refine lv_goto (tgt := 11) X.x X.b (dk DX11_perform_0 28 rfl) (by decide) ?_
        rw [hA] at K
        obtain ⟨ow1, S1, hC1, hF1, hS1⟩ := id hP
        refine ih9 (t + 1) (k + (actM row k (w, bw, aw)).1) ow1 m1 _ _ _ S1 hC1 (hF1.1 _ _ _ (hC.notS hy (by decide) (by decide)) hy) (by omega) (by omega) (fun m2 hP2 H locs ls cells slots h1 h2 hH hl => K m2 (CoreP.trn hF1 hS1 hP2) H locs ls cells slots h1 h2 hH hl) H locs ls _ _ (by show cells + 4 + 4 * f ≤ 161; omega) (by show slots + 197 + 197 * f ≤ 7886; omega) hH hl
      · have h0 : (actM row k (w, bw, aw)).1 = 0 := (nI_eq (by omega) (by decide)).mp (show nI _ = nI 0 from c2)
        have hA : perfM row (f + 1) k (w, bw, aw) = (k, (w, bw, aw)) := by
          unfold perfM
          rw [if_neg (by omega), if_pos h0]
        refine lv_goto (tgt := 53) X.x X.b (dk DX11_perform_0 22 rfl) (by decide) ?_
        have hS0 : (actM row k (w, bw, aw)).2 = (w, bw, aw) := actM_0 h0
        rw [hS0] at hP
        exact K _ (by rw [hA]; exact hP) H locs ls _ _ (by show cells + 4 ≤ 161; omega) (by show slots + 197 ≤ 7887; omega) hH (by rw [hA]; exact lv_sub hl [2] rfl)
abbrev rm_X11_perform : Room := { frames := 10, cells := 161, slots := 7887, locals := 230 }
set_option maxHeartbeats 4000000 in
set_option maxRecDepth 100000 in
theorem c_X11_perform {l : Launch} (hst : l.stackTraces = false) {G : mG} {qt qn qd qh : Nat → Nat} {ow : Nat → Nat} {m : mM} {w : Wd} {bw aw : List Wd} {S : Nat → Prop} (hC : Core G qt qn qd qh ow m w bw aw S) {i : Int32} {xt : Nat} (hk5 : qt 5 = xt) {ft : Nat → Option Nat} (hR9 : RowT LX7 5 4 G ow m xt ft) {tc : Nat → Option (Nat × List Int64)} (hT9 : TRS G ow m ft tc) : xQ l G yX11_perform cX11_perform 6 (some FieldType.int) rm_X11_perform [.ref (qt 10), .int i] m (mQi G (fun r m' => ∃ (j so : Nat) (row : List Int64), i = nI j ∧ j < 4 ∧ tc j = some (so, row) ∧ r = nI (perfM row 40 0 (w, bw, aw)).1 ∧ CoreP G qt qn qd qh ow m S m' (perfM row 40 0 (w, bw, aw)).2.1 (perfM row 40 0 (w, bw, aw)).2.2.1 (perfM row 40 0 (w, bw, aw)).2.2.2)) (fun E m' => NoAt 4 ft i E ∧ m' = m) := by
  refine xp_of (by decide +kernel) (Nat.le_of_ble_eq_true rfl) ?_
  intro p e s m9 below meth c X hr hlk hno hH ls hl
  replace hl : lv_has ls 6 [(0, .ref (qt 10)), (1, .int i)] := hl
  obtain ⟨stt, stn, std, fb, fa, bs, as, hT, hn, hw, hd, hS, hb, ha, hx, hk, hSS⟩ := id hC
  refine lv_aload_n X.x X.b (dk DX11_perform_0 0 rfl) rfl (lv_at hl 0 rfl) ?_
  refine lv_iload_n X.x X.b (dk DX11_perform_0 1 rfl) rfl (lv_at hl 1 rfl) ?_
  refine mr_xr hH (mr_xrunV (As := [.int i]) (rest := []) X hH (xt1 hT (c_X11_trayAt hst hT.1 hk5 (by rw [hT.eq]; exact hR9.1.1))) hT.root OX11.1 kM_X11_280 kI_X11_trayAt kS_X11_trayAt kN_X11 kC_X11_trayAt hd_X11_trayAt ⟨Nat.le_of_ble_eq_true rfl, Nat.le_of_ble_eq_true rfl⟩ rfl hl.1 (Nat.le_of_ble_eq_true rfl) (dk DX11_perform_0 2 rfl) ⟨Nat.le_of_ble_eq_true rfl, Nat.le_of_ble_eq_true rfl⟩) (fun E h1 q9 H locs hp hH hth => ?_) (fun a9 h1 H locs hp hH => ?_)
  · obtain ⟨hE, hp⟩ := hp
    rw [hp, hT.eq] at hH
    refine mr_xout hno hlk hH hth (px := _) ⟨hE, rfl⟩ (Nat.le_of_ble_eq_true rfl) (Nat.le_of_ble_eq_true rfl)
  obtain ⟨j, hij, hj, hfj, hp⟩ := hp
  rw [hp, hT.eq] at hH
  subst hij
  obtain ⟨qy, sty, so, row, htc, hqy, hy, ht⟩ := hT9.2 _ _ hfj
  subst hqy
  refine lv_astore_n (lv' := [(2, .ref (qy 3)), (0, .ref (qt 10)), (1, .int (nI j))]) X.x X.b (dk DX11_perform_0 3 rfl) rfl hl (by decide) rfl (fun ls hl => ?_)
  replace hl : lv_has ls 6 [(0, .ref (qt 10)), (2, .ref (qy 3))] := lv_sub hl [1, 0] rfl
  refine lv_iconst (v := 0) X.x X.b (dk DX11_perform_0 4 rfl) (by decide) ?_
  refine lv_istore_n (lv' := [(3, .int 0), (0, .ref (qt 10)), (2, .ref (qy 3))]) X.x X.b (dk DX11_perform_0 5 rfl) rfl hl (by decide) rfl (fun ls hl => ?_)
  replace hl : lv_has ls 6 [(0, .ref (qt 10)), (2, .ref (qy 3)), (3, .int 0)] := lv_sub hl [1, 2, 0] rfl
  refine lv_iconst (v := 0) X.x X.b (dk DX11_perform_0 6 rfl) (by decide) ?_
  refine lv_istore (lv' := [(4, .int 0), (0, .ref (qt 10)), (2, .ref (qy 3)), (3, .int 0)]) X.x X.b (dk DX11_perform_0 7 rfl) hl (by decide) rfl (fun ls hl => ?_)
  replace hl : lv_has ls 6 [(0, .ref (qt 10)), (2, .ref (qy 3)), (3, .int 0), (4, .int 0)] := lv_sub hl [1, 2, 3, 0] rfl
  refine w_X11_perform_11 ht X ⟨by decide, by decide, by decide, by decide⟩ 40 0 0 ow m w bw aw _ hC hy (by omega) (by omega) (fun m1 hP H locs ls cells slots hc1 hs1 hH hl => ?_) _ _ _ _ _ (by decide) (by decide) hH hl
  · refine lv_iload_n X.x X.b (dk DX11_perform_0 29 rfl) rfl (lv_at hl 0 rfl) ?_
    exact vx_ret (W.widen (k := (rm_X11_perform).cells) (n := (rm_X11_perform).slots) hc1 hs1 (mr_iret X hr hlk hH ⟨j, so, row, rfl, hj, htc, rfl, hP⟩ (dk DX11_perform_0 30 rfl)))
set_option maxHeartbeats 4000000 in
set_option maxRecDepth 100000 in
theorem t_X11_like {l : Launch} (hst : l.stackTraces = false) {G : mG} {ow : Nat → Nat} {m : mM} {qt qn : Nat → Nat} {stt : OS} (hT : At G ow m LX11 qt stt) (hk1 : qt 1 = qn 5) {xt : Nat} (hk4 : qt 4 = xt) {ft : Nat → Option Nat} (hR9 : RowT LX10 4 3 G ow m xt ft) {i : Int32} {E9 : String} (hE9 : NoAt 3 ft i E9) {Qc : Array Value → State → Outcome → State → Prop} : xQ l G yX11_like cX11_like 3 (some FieldType.int) rm_X11_like [.ref (qt 10), .int i] m Qc (fun E m' => NoAt 3 ft i E ∧ m' = m) := by
  refine xp_of (by decide +kernel) (Nat.le_of_ble_eq_true rfl) ?_
  intro p e s m9 below meth c X hr hlk hno hH ls hl
  replace hl : lv_has ls 3 [(0, .ref (qt 10)), (1, .int i)] := hl
  refine lv_aload_n X.x X.b (dk DX11_like_0 0 rfl) rfl (lv_at hl 0 rfl) ?_
  refine lv_iload_n X.x X.b (dk DX11_like_0 1 rfl) rfl (lv_at hl 1 rfl) ?_
  refine mr_xr hH (mr_xrunV (As := [.int i]) (rest := []) X hH (xt1 hT (c_X11_imageAt hst hT.1 hk4 (by rw [hT.eq]; exact hR9.1.1))) hT.root OX11.1 kM_X11_250 kI_X11_imageAt kS_X11_imageAt kN_X11 kC_X11_imageAt hd_X11_imageAt ⟨Nat.le_of_ble_eq_true rfl, Nat.le_of_ble_eq_true rfl⟩ rfl hl.1 (Nat.le_of_ble_eq_true rfl) (dk DX11_like_0 2 rfl) ⟨Nat.le_of_ble_eq_true rfl, Nat.le_of_ble_eq_true rfl⟩) (fun E h1 q9 H locs hp hH hth => ?_) (fun a9 h1 H locs hp hH => ?_)
  · obtain ⟨hE, hp⟩ := hp
    rw [hp, hT.eq] at hH
    refine mr_xout hno hlk hH hth (px := _) ⟨hE, rfl⟩ (Nat.le_of_ble_eq_true rfl) (Nat.le_of_ble_eq_true rfl)
  obtain ⟨j, hij, hj, hfj, hp⟩ := hp
  rw [hp, hT.eq] at hH
  subst hij
  rcases hE9 with ⟨-, z | z⟩ | ⟨-, k9, z1, z3, z4, z2⟩
  · exact absurd z (nI_pos (by omega))
  · exact absurd (nI_lt hj (by decide)) z
  · have := (nI_eq (by omega) (by omega)).mp z1
    subst this
    rw [hfj] at z2
    cases z2
set_option maxHeartbeats 4000000 in
set_option maxRecDepth 100000 in
theorem t_X11_restore {l : Launch} (hst : l.stackTraces = false) {G : mG} {ow : Nat → Nat} {m : mM} {qt qn : Nat → Nat} {stt : OS} (hT : At G ow m LX11 qt stt) (hk1 : qt 1 = qn 5) {xt : Nat} (hk4 : qt 4 = xt) {ft : Nat → Option Nat} (hR9 : RowT LX10 4 3 G ow m xt ft) {i : Int32} {E9 : String} (hE9 : NoAt 3 ft i E9) {Qc : Array Value → State → Outcome → State → Prop} : xQ l G yX11_restore cX11_restore 2 none rm_X11_restore [.ref (qt 10), .int i] m Qc (fun E m' => NoAt 3 ft i E ∧ m' = m) := by
  refine xp_of (by decide +kernel) (Nat.le_of_ble_eq_true rfl) ?_
  intro p e s m9 below meth c X hr hlk hno hH ls hl
  replace hl : lv_has ls 2 [(0, .ref (qt 10)), (1, .int i)] := hl
  refine lv_aload_n X.x X.b (dk DX11_restore_0 0 rfl) rfl (lv_at hl 0 rfl) ?_
  refine ag_getR (t := 4) OX11 X hT hH 1 (by decide) rfl kF_X11_19 (dk DX11_restore_0 1 rfl) ?_
  rw [hk1]
  refine lv_aload_n X.x X.b (dk DX11_restore_0 2 rfl) rfl (lv_at hl 0 rfl) ?_
  refine lv_iload_n X.x X.b (dk DX11_restore_0 3 rfl) rfl (lv_at hl 1 rfl) ?_
  refine mr_xr hH (mr_xrunV (As := [.int i]) (rest := [.ref (qn 5)]) X hH (xt1 hT (c_X11_imageAt hst hT.1 hk4 (by rw [hT.eq]; exact hR9.1.1))) hT.root OX11.1 kM_X11_250 kI_X11_imageAt kS_X11_imageAt kN_X11 kC_X11_imageAt hd_X11_imageAt ⟨Nat.le_of_ble_eq_true rfl, Nat.le_of_ble_eq_true rfl⟩ rfl hl.1 (Nat.le_of_ble_eq_true rfl) (dk DX11_restore_0 4 rfl) ⟨Nat.le_of_ble_eq_true rfl, Nat.le_of_ble_eq_true rfl⟩) (fun E h1 q9 H locs hp hH hth => ?_) (fun a9 h1 H locs hp hH => ?_)
  · obtain ⟨hE, hp⟩ := hp
    rw [hp, hT.eq] at hH
    refine mr_xout hno hlk hH hth (px := _) ⟨hE, rfl⟩ (Nat.le_of_ble_eq_true rfl) (Nat.le_of_ble_eq_true rfl)
  obtain ⟨j, hij, hj, hfj, hp⟩ := hp
  rw [hp, hT.eq] at hH
  subst hij
  rcases hE9 with ⟨-, z | z⟩ | ⟨-, k9, z1, z3, z4, z2⟩
  · exact absurd z (nI_pos (by omega))
  · exact absurd (nI_lt hj (by decide)) z
  · have := (nI_eq (by omega) (by omega)).mp z1
    subst this
    rw [hfj] at z2
    cases z2
set_option maxHeartbeats 4000000 in
set_option maxRecDepth 100000 in
theorem t_X11_write {l : Launch} (hst : l.stackTraces = false) {G : mG} {ow : Nat → Nat} {m : mM} {qt qn : Nat → Nat} {stt : OS} (hT : At G ow m LX11 qt stt) (hk1 : qt 1 = qn 5) {xt : Nat} (hk5 : qt 5 = xt) {ft : Nat → Option Nat} (hR9 : RowT LX7 5 4 G ow m xt ft) {i : Int32} {a1 : Int32} {a2 : Int64} {E9 : String} (hE9 : NoAt 4 ft i E9) {Qc : Array Value → State → Outcome → State → Prop} : xQ l G yX11_write cX11_write 6 (some FieldType.long) rm_X11_write [.ref (qt 10), .int i, .int a1, .long a2] m Qc (fun E m' => NoAt 4 ft i E ∧ m' = m) := by
  refine xp_of (by decide +kernel) (Nat.le_of_ble_eq_true rfl) ?_
  intro p e s m9 below meth c X hr hlk hno hH ls hl
  replace hl : lv_has ls 6 [(0, .ref (qt 10)), (1, .int i), (2, .int a1), (3, .long a2)] := hl
  refine lv_aload_n X.x X.b (dk DX11_write_0 0 rfl) rfl (lv_at hl 0 rfl) ?_
  refine lv_iload_n X.x X.b (dk DX11_write_0 1 rfl) rfl (lv_at hl 1 rfl) ?_
  refine mr_xr hH (mr_xrunV (As := [.int i]) (rest := []) X hH (xt1 hT (c_X11_trayAt hst hT.1 hk5 (by rw [hT.eq]; exact hR9.1.1))) hT.root OX11.1 kM_X11_280 kI_X11_trayAt kS_X11_trayAt kN_X11 kC_X11_trayAt hd_X11_trayAt ⟨Nat.le_of_ble_eq_true rfl, Nat.le_of_ble_eq_true rfl⟩ rfl hl.1 (Nat.le_of_ble_eq_true rfl) (dk DX11_write_0 2 rfl) ⟨Nat.le_of_ble_eq_true rfl, Nat.le_of_ble_eq_true rfl⟩) (fun E h1 q9 H locs hp hH hth => ?_) (fun a9 h1 H locs hp hH => ?_)
  · obtain ⟨hE, hp⟩ := hp
    rw [hp, hT.eq] at hH
    refine mr_xout hno hlk hH hth (px := _) ⟨hE, rfl⟩ (Nat.le_of_ble_eq_true rfl) (Nat.le_of_ble_eq_true rfl)
  obtain ⟨j, hij, hj, hfj, hp⟩ := hp
  rw [hp, hT.eq] at hH
  subst hij
  rcases hE9 with ⟨-, z | z⟩ | ⟨-, k9, z1, z3, z4, z2⟩
  · exact absurd z (nI_pos (by omega))
  · exact absurd (nI_lt hj (by decide)) z
  · have := (nI_eq (by omega) (by omega)).mp z1
    subst this
    rw [hfj] at z2
    cases z2
set_option maxHeartbeats 4000000 in
set_option maxRecDepth 100000 in
theorem t_X11_pour {l : Launch} (hst : l.stackTraces = false) {G : mG} {ow : Nat → Nat} {m : mM} {qt qn : Nat → Nat} {stt : OS} (hT : At G ow m LX11 qt stt) (hk1 : qt 1 = qn 5) {xt : Nat} (hk5 : qt 5 = xt) {ft : Nat → Option Nat} (hR9 : RowT LX7 5 4 G ow m xt ft) {i : Int32} {E9 : String} (hE9 : NoAt 4 ft i E9) {Qc : Array Value → State → Outcome → State → Prop} : xQ l G yX11_pour cX11_pour 5 (some FieldType.int) rm_X11_pour [.ref (qt 10), .int i] m Qc (fun E m' => NoAt 4 ft i E ∧ m' = m) := by
  refine xp_of (by decide +kernel) (Nat.le_of_ble_eq_true rfl) ?_
  intro p e s m9 below meth c X hr hlk hno hH ls hl
  replace hl : lv_has ls 5 [(0, .ref (qt 10)), (1, .int i)] := hl
  refine lv_aload_n X.x X.b (dk DX11_pour_0 0 rfl) rfl (lv_at hl 0 rfl) ?_
  refine lv_iload_n X.x X.b (dk DX11_pour_0 1 rfl) rfl (lv_at hl 1 rfl) ?_
  refine mr_xr hH (mr_xrunV (As := [.int i]) (rest := []) X hH (xt1 hT (c_X11_trayAt hst hT.1 hk5 (by rw [hT.eq]; exact hR9.1.1))) hT.root OX11.1 kM_X11_280 kI_X11_trayAt kS_X11_trayAt kN_X11 kC_X11_trayAt hd_X11_trayAt ⟨Nat.le_of_ble_eq_true rfl, Nat.le_of_ble_eq_true rfl⟩ rfl hl.1 (Nat.le_of_ble_eq_true rfl) (dk DX11_pour_0 2 rfl) ⟨Nat.le_of_ble_eq_true rfl, Nat.le_of_ble_eq_true rfl⟩) (fun E h1 q9 H locs hp hH hth => ?_) (fun a9 h1 H locs hp hH => ?_)
  · obtain ⟨hE, hp⟩ := hp
    rw [hp, hT.eq] at hH
    refine mr_xout hno hlk hH hth (px := _) ⟨hE, rfl⟩ (Nat.le_of_ble_eq_true rfl) (Nat.le_of_ble_eq_true rfl)
  obtain ⟨j, hij, hj, hfj, hp⟩ := hp
  rw [hp, hT.eq] at hH
  subst hij
  rcases hE9 with ⟨-, z | z⟩ | ⟨-, k9, z1, z3, z4, z2⟩
  · exact absurd z (nI_pos (by omega))
  · exact absurd (nI_lt hj (by decide)) z
  · have := (nI_eq (by omega) (by omega)).mp z1
    subst this
    rw [hfj] at z2
    cases z2
