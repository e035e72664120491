section MXR
variable {p : Program} {l : Launch} {e : Env} {R : Room} {s : State} {m : MethodId} {args : Array Value} {below : List Frame} {meth : Method} {c : Code} {H : Heap} {locs : List Loc} {cells slots : Nat} {Q : State → Prop}
variable {cc : ByteArray} {nL pc : Nat} {ls : Array Slot} {rest st0 : List Value} {G : mG} {h : mM} {own : String} {a : Nat} {aa : Array Value} {mc ms : Nat} {px : String → mM → Prop}
theorem mr_xr (hH : mH G h s.heap H locs) {post : Nat → mM → Prop} (hr : vx_Run p l e R s m args below meth c H locs cells slots mc ms (F0 m pc ls st0) rest (mQr G post aa) (mXX G px) (mA G))
    (kx : ∀ (E : String) (h1 : mM) (q9 : Addr) (H1 : Heap) (locs1 : List Loc), px E h1 → mH G h1 s.heap H1 locs1 → mTh s H1 q9 E → vx_W p l e R s m args below meth c H1 locs1 (cells + mc) (slots + ms) Q (F0 m pc ls rest) q9)
    (kk : ∀ (r : Nat) (h1 : mM) (H1 : Heap) (locs1 : List Loc), post r h1 → mH G h1 s.heap H1 locs1 → W p l e R s m args below meth c H1 locs1 (cells + mc) (slots + ms) Q (F0 m (pc + 3) ls (.ref r :: rest))) : W p l e R s m args below meth c H locs cells slots Q (F0 m pc ls st0) := by
  intro T hT X
  rcases hr T hT X with ⟨v, st₀, t, T', L, h0, X', hL, e1, e2, ⟨⟨u, ra, hv, hp, hb⟩, hF⟩, st⟩ | ⟨q, st₀, t, T', L, E, ce, h0, X', hL, e1, e2, ⟨u, hp, hb, hF⟩, hce, hcv, hcl, st⟩
  · cases hv
    obtain ⟨k1, k2, k3⟩ := vx_keep h0 e1 hH.2.1 (fun _ _ z => z) (fun _ z => z) hL hF
    obtain ⟨t2, a1, b1⟩ := kk ra u.2 T'.heap (locs ++ L) (by rw [← hb.1]; exact hp) ⟨by rw [e1]; exact hb.2, k3, hH.2.2⟩ T' rfl X'
    exact ⟨t2, st t2 a1, b1⟩
  · obtain ⟨k1, k2, k3⟩ := vx_keep h0 e1 hH.2.1 (fun _ _ z => z) (fun _ z => z) hL hF
    obtain ⟨t2, a1, b1⟩ := kx E u.2 q T'.heap (locs ++ L) (by rw [hb.1]; exact hp) ⟨by rw [e1]; exact hb.2, k3, hH.2.2⟩ ⟨ce, by rw [e1]; exact hce, hcv, hcl⟩ T' rfl X'
    exact ⟨t2, st.trans a1, b1⟩
theorem mr_aret (X : mX G p m c cc nL s args own) {n : String} (hr : meth.sig.returnType = some (.object n)) (hlk : meth.locks = false) (hH : mH G h s.heap H locs) {post : Nat → mM → Prop} {v : Nat} (hp : post v h) (hdg : decode cc pc = .ok (.areturn, 1)) : W p l e R s m args below meth c H locs cells slots (MQ below (mQr G post) args s cells slots (mA G)) (F0 m pc ls [.ref v]) :=
  W.aret X.x X.b hr (Or.inl ⟨n, rfl⟩) (Or.inr ⟨v, rfl⟩) (fun _ ht _ => ⟨⟨(v, h), v, rfl, hp, rfl, show mI G h _ by rw [ht]; exact hH.1⟩, hH.2.1.F ht⟩) hH.2.1.2.2 hdg hlk
end MXR
section AT4
variable {l : Launch} {G : mG} {ow ow1 ow2 : Nat → Nat} {y : MethodName} {cb : ByteArray} {mL : Nat} {ret : Option FieldType} {rm : Room} {av : List Value} {Qc : Array Value → State → Outcome → State → Prop} {px : String → mM → Prop} {m : mM} {L L1 L2 L3 : LY} {q q1 q2 q3 : Nat → Nat} {st s1 s2 s3 : OS}
theorem xt1 (hA : At G ow m L q st) (h : xQ l G y cb mL ret rm av (oset L G q st m) Qc px) : xQ l G y cb mL ret rm av m Qc px := by rw [hA.eq] at h; exact h
theorem xt2 (hA1 : At G ow m L1 q1 s1) (hA2 : At G ow m L2 q2 s2) (h : xQ l G y cb mL ret rm av (oset L1 G q1 s1 (oset L2 G q2 s2 m)) Qc px) : xQ l G y cb mL ret rm av m Qc px := by rw [hA2.eq, hA1.eq] at h; exact h
end AT4
/-- why a place of a row can't be had -/
def NoAt (n : Int32) (f : Nat → Option Nat) (i : Int32) (E : String) : Prop := (E = exN 0 ∧ (i < 0 ∨ ¬ i < n)) ∨ (E = exN 2 ∧ ∃ j, i = nI j ∧ nI j < n ∧ j < 100 ∧ f j = none)
theorem NoAt.no {N : Nat} {f : Nat → Option Nat} {j a : Nat} {E : String} (h : NoAt (nI N) f (nI j) E) (hN : N < 100) (hj : j < N) (hf : f j = some a) : False := by
  rcases h with ⟨-, z | z⟩ | ⟨-, k, z1, -, z2, z3⟩
  · exact nI_pos (by omega) z
  · exact z (nI_lt hj (by omega))
  · rw [← (nI_eq (by omega) (by omega)).mp z1, hf] at z3
    cases z3
theorem hd_X11_imageAt : mHd yX11_imageAt 1 := ⟨by decide +kernel, by decide +kernel, by decide +kernel⟩
theorem DX11_imageAt_0 : ∀ t ∈ ([(0, .iload_n 1, 1), (1, .ifCond .lt 8, 3), (4, .iload_n 1, 1), (5, .iconst 3, 1), (6, .if_icmp .lt 14, 3), (9, .new 291, 3), (12, .dup, 1), (13, .ldc_w 320, 3), (16, .invokespecial 295, 3), (19, .athrow, 1), (20, .aload_n 0, 1), (21, .getfield 33, 3), (24, .iload_n 1, 1), (25, .aaload, 1), (26, .astore_n 2, 1), (27, .aload_n 2, 1), (28, .ifnonnull 14, 3), (31, .new 343, 3), (34, .dup, 1), (35, .ldc_w 348, 3), (38, .invokespecial 347, 3), (41, .athrow, 1), (42, .aload_n 2, 1), (43, .areturn, 1)] : List (Nat × Instr × Nat)), decode cX11_imageAt t.1 = .ok (t.2.1, t.2.2) := by decide +kernel
abbrev rm_X11_imageAt : Room := { frames := 6, cells := 1, slots := 6, locals := 90 }
set_option maxHeartbeats 4000000 in
set_option maxRecDepth 100000 in
theorem c_X11_imageAt {l : Launch} (hst : l.stackTraces = false) {G : mG} {h : mM} {q : Nat → Nat} (hq : oinj LX11 q) {st : OS} {xi : Nat} (hk : q 4 = xi) {fi : Nat → Option Nat} (hC : (oset LX11 G q st h) xi = some (aQ G 4 3 fi)) {i : Int32} : xQ l G yX11_imageAt cX11_imageAt 3 (some (FieldType.object "NoThrees$World")) rm_X11_imageAt [.ref (q 10), .int i] (oset LX11 G q st h) (mQr G (fun a m' => ∃ j, i = nI j ∧ j < 3 ∧ fi j = some a ∧ m' = oset LX11 G q st h)) (fun E m' => NoAt 3 fi i E ∧ m' = oset LX11 G q st h) := by
  refine xp_of (by decide +kernel) (Nat.le_of_ble_eq_true rfl) ?_
  intro p e s m9 below meth c X hr hlk hno hH ls hl
  replace hl : lv_has ls 3 [(0, .ref (q 10)), (1, .int i)] := hl
  refine lv_iload_n X.x X.b (dk DX11_imageAt_0 0 rfl) rfl (lv_at hl 1 rfl) ?_
  refine lv_if_lt (tgt := 9) X.x X.b (dk DX11_imageAt_0 1 rfl) (by decide) (fun c => ?_) (fun c => ?_)
  · exact mr_throwN X hno hlk hl.1 hst hH 14 (by decide +kernel) (by decide +kernel) (by decide +kernel) nsT_X11_295 kL_X11_291 kN_ex0 (dk DX11_imageAt_0 5 rfl) (dk DX11_imageAt_0 6 rfl) (dk DX11_imageAt_0 7 rfl) (dk DX11_imageAt_0 8 rfl) (dk DX11_imageAt_0 9 rfl) ⟨Nat.le_of_ble_eq_true rfl, Nat.le_of_ble_eq_true rfl, Nat.le_of_ble_eq_true rfl, Nat.le_of_ble_eq_true rfl⟩ (Nat.le_of_ble_eq_true rfl) (Nat.le_of_ble_eq_true rfl) ⟨Or.inl ⟨rfl, Or.inl c⟩, rfl⟩
  · refine lv_iload_n X.x X.b (dk DX11_imageAt_0 2 rfl) rfl (lv_at hl 1 rfl) ?_
    refine lv_iconst (v := 3) X.x X.b (dk DX11_imageAt_0 3 rfl) (by decide) ?_
    refine lv_icmp_lt (tgt := 20) X.x X.b (dk DX11_imageAt_0 4 rfl) (by decide) (fun c2 => ?_) (fun c2 => ?_)
    · obtain ⟨j, hj, hij⟩ : ∃ j, j < 3 ∧ i = nI j := by
        obtain ⟨j, hj, hij⟩ := nI_of c
        refine ⟨j, ?_, hij⟩
        rw [hij] at c2
        rcases Nat.lt_or_ge j 3 with h | h
        · exact h
        · exact absurd c2 (nI_nlt (a := j) (b := 3) h hj)
      subst hij
      refine lv_aload_n X.x X.b (dk DX11_imageAt_0 10 rfl) rfl (lv_at hl 0 rfl) ?_
      refine og_getR (t := 4) OX11 X hq hH 4 (by decide) rfl kF_X11_33 (dk DX11_imageAt_0 11 rfl) ?_
      rw [hk]
      refine lv_iload_n X.x X.b (dk DX11_imageAt_0 12 rfl) rfl (lv_at hl 1 rfl) ?_
      refine mr_aald (t := 4) X hH rfl hC (vp_in_nI hj (by decide)) (dk DX11_imageAt_0 13 rfl) ?_
      rw [nI_clamp (by omega)]
      cases hfj : fi j with
      | none =>
        refine lv_astore_nN (lv' := [(2, .null), (0, .ref (q 10)), (1, .int (nI j))]) X.x X.b (dk DX11_imageAt_0 14 rfl) rfl hl (by decide) rfl (fun ls hl => ?_)
        replace hl : lv_has ls 3 [(2, .null)] := lv_sub hl [0] rfl
        refine lv_aload_nN X.x X.b (dk DX11_imageAt_0 15 rfl) rfl (lv_at hl 0 rfl) ?_
        refine lv_ifnonnullN X.x X.b (dk DX11_imageAt_0 16 rfl) ?_
        exact mr_throwSW X hno hlk hl.1 hst hH 2 15 (by decide +kernel) (by decide +kernel) (by decide +kernel) exT_X11_347 kL_X11_343 kN_ex2 (dk DX11_imageAt_0 17 rfl) (dk DX11_imageAt_0 18 rfl) (dk DX11_imageAt_0 19 rfl) (dk DX11_imageAt_0 20 rfl) (dk DX11_imageAt_0 21 rfl) ⟨Nat.le_of_ble_eq_true rfl, Nat.le_of_ble_eq_true rfl, Nat.le_of_ble_eq_true rfl, Nat.le_of_ble_eq_true rfl⟩ (Nat.le_of_ble_eq_true rfl) (Nat.le_of_ble_eq_true rfl) ⟨Or.inr ⟨rfl, j, rfl, nI_lt hj (by decide), by omega, hfj⟩, rfl⟩
      | some a =>
        refine lv_astore_n (lv' := [(2, .ref a), (0, .ref (q 10)), (1, .int (nI j))]) X.x X.b (dk DX11_imageAt_0 14 rfl) rfl hl (by decide) rfl (fun ls hl => ?_)
        replace hl : lv_has ls 3 [(2, .ref a)] := lv_sub hl [0] rfl
        refine lv_aload_n X.x X.b (dk DX11_imageAt_0 15 rfl) rfl (lv_at hl 0 rfl) ?_
        refine lv_ifnonnull (tgt := 42) X.x X.b (dk DX11_imageAt_0 16 rfl) (by decide) ?_
        refine lv_aload_n X.x X.b (dk DX11_imageAt_0 22 rfl) rfl (lv_at hl 0 rfl) ?_
        exact vx_ret (W.widen (k := 1) (n := 6) (Nat.zero_le _) (Nat.zero_le _) (mr_aret X hr hlk hH ⟨j, rfl, hj, hfj, rfl⟩ (dk DX11_imageAt_0 23 rfl)))
    · exact mr_throwN X hno hlk hl.1 hst hH 14 (by decide +kernel) (by decide +kernel) (by decide +kernel) nsT_X11_295 kL_X11_291 kN_ex0 (dk DX11_imageAt_0 5 rfl) (dk DX11_imageAt_0 6 rfl) (dk DX11_imageAt_0 7 rfl) (dk DX11_imageAt_0 8 rfl) (dk DX11_imageAt_0 9 rfl) ⟨Nat.le_of_ble_eq_true rfl, Nat.le_of_ble_eq_true rfl, Nat.le_of_ble_eq_true rfl, Nat.le_of_ble_eq_true rfl⟩ (Nat.le_of_ble_eq_true rfl) (Nat.le_of_ble_eq_true rfl) ⟨Or.inl ⟨rfl, Or.inr c2⟩, rfl⟩
theorem hd_X11_trayAt : mHd yX11_trayAt 1 := ⟨by decide +kernel, by decide +kernel, by decide +kernel⟩
theorem DX11_trayAt_0 : ∀ t ∈ ([(0, .iload_n 1, 1), (1, .ifCond .lt 8, 3), (4, .iload_n 1, 1), (5, .iconst 4, 1), (6, .if_icmp .lt 14, 3), (9, .new 291, 3), (12, .dup, 1), (13, .ldc_w 293, 3), (16, .invokespecial 295, 3), (19, .athrow, 1), (20, .aload_n 0, 1), (21, .getfield 39, 3), (24, .iload_n 1, 1), (25, .aaload, 1), (26, .astore_n 2, 1), (27, .aload_n 2, 1), (28, .ifnonnull 14, 3), (31, .new 343, 3), (34, .dup, 1), (35, .ldc_w 345, 3), (38, .invokespecial 347, 3), (41, .athrow, 1), (42, .aload_n 2, 1), (43, .areturn, 1)] : List (Nat × Instr × Nat)), decode cX11_trayAt t.1 = .ok (t.2.1, t.2.2) := by decide +kernel
abbrev rm_X11_trayAt : Room := { frames := 6, cells := 1, slots := 6, locals := 90 }
set_option maxHeartbeats 4000000 in
set_option maxRecDepth 100000 in
theorem c_X11_trayAt {l : Launch} (hst : l.stackTraces = false) {G : mG} {h : mM} {q : Nat → Nat} (hq : oinj LX11 q) {st : OS} {xi : Nat} (hk : q 5 = xi) {fi : Nat → Option Nat} (hC : (oset LX11 G q st h) xi = some (aQ G 5 4 fi)) {i : Int32} : xQ l G yX11_trayAt cX11_trayAt 3 (some (FieldType.object "NoThrees$Tray")) rm_X11_trayAt [.ref (q 10), .int i] (oset LX11 G q st h) (mQr G (fun a m' => ∃ j, i = nI j ∧ j < 4 ∧ fi j = some a ∧ m' = oset LX11 G q st h)) (fun E m' => NoAt 4 fi i E ∧ m' = oset LX11 G q st h) := by
  refine xp_of (by decide +kernel) (Nat.le_of_ble_eq_true rfl) ?_
  intro p e s m9 below meth c X hr hlk hno hH ls hl
  replace hl : lv_has ls 3 [(0, .ref (q 10)), (1, .int i)] := hl
  refine lv_iload_n X.x X.b (dk DX11_trayAt_0 0 rfl) rfl (lv_at hl 1 rfl) ?_
  refine lv_if_lt (tgt := 9) X.x X.b (dk DX11_trayAt_0 1 rfl) (by decide) (fun c => ?_) (fun c => ?_)
  · exact mr_throwN X hno hlk hl.1 hst hH 17 (by decide +kernel) (by decide +kernel) (by decide +kernel) nsT_X11_295 kL_X11_291 kN_ex0 (dk DX11_trayAt_0 5 rfl) (dk DX11_trayAt_0 6 rfl) (dk DX11_trayAt_0 7 rfl) (dk DX11_trayAt_0 8 rfl) (dk DX11_trayAt_0 9 rfl) ⟨Nat.le_of_ble_eq_true rfl, Nat.le_of_ble_eq_true rfl, Nat.le_of_ble_eq_true rfl, Nat.le_of_ble_eq_true rfl⟩ (Nat.le_of_ble_eq_true rfl) (Nat.le_of_ble_eq_true rfl) ⟨Or.inl ⟨rfl, Or.inl c⟩, rfl⟩
  · refine lv_iload_n X.x X.b (dk DX11_trayAt_0 2 rfl) rfl (lv_at hl 1 rfl) ?_
    refine lv_iconst (v := 4) X.x X.b (dk DX11_trayAt_0 3 rfl) (by decide) ?_
    refine lv_icmp_lt (tgt := 20) X.x X.b (dk DX11_trayAt_0 4 rfl) (by decide) (fun c2 => ?_) (fun c2 => ?_)
    · obtain ⟨j, hj, hij⟩ : ∃ j, j < 4 ∧ i = nI j := by
        obtain ⟨j, hj, hij⟩ := nI_of c
        refine ⟨j, ?_, hij⟩
        rw [hij] at c2
        rcases Nat.lt_or_ge j 4 with h | h
        · exact h
        · exact absurd c2 (nI_nlt (a := j) (b := 4) h hj)
      subst hij
      refine lv_aload_n X.x X.b (dk DX11_trayAt_0 10 rfl) rfl (lv_at hl 0 rfl) ?_
      refine og_getR (t := 4) OX11 X hq hH 5 (by decide) rfl kF_X11_39 (dk DX11_trayAt_0 11 rfl) ?_
      rw [hk]
      refine lv_iload_n X.x X.b (dk DX11_trayAt_0 12 rfl) rfl (lv_at hl 1 rfl) ?_
      refine mr_aald (t := 5) X hH rfl hC (vp_in_nI hj (by decide)) (dk DX11_trayAt_0 13 rfl) ?_
      rw [nI_clamp (by omega)]
      cases hfj : fi j with
      | none =>
        refine lv_astore_nN (lv' := [(2, .null), (0, .ref (q 10)), (1, .int (nI j))]) X.x X.b (dk DX11_trayAt_0 14 rfl) rfl hl (by decide) rfl (fun ls hl => ?_)
        replace hl : lv_has ls 3 [(2, .null)] := lv_sub hl [0] rfl
        refine lv_aload_nN X.x X.b (dk DX11_trayAt_0 15 rfl) rfl (lv_at hl 0 rfl) ?_
        refine lv_ifnonnullN X.x X.b (dk DX11_trayAt_0 16 rfl) ?_
        exact mr_throwSW X hno hlk hl.1 hst hH 2 18 (by decide +kernel) (by decide +kernel) (by decide +kernel) exT_X11_347 kL_X11_343 kN_ex2 (dk DX11_trayAt_0 17 rfl) (dk DX11_trayAt_0 18 rfl) (dk DX11_trayAt_0 19 rfl) (dk DX11_trayAt_0 20 rfl) (dk DX11_trayAt_0 21 rfl) ⟨Nat.le_of_ble_eq_true rfl, Nat.le_of_ble_eq_true rfl, Nat.le_of_ble_eq_true rfl, Nat.le_of_ble_eq_true rfl⟩ (Nat.le_of_ble_eq_true rfl) (Nat.le_of_ble_eq_true rfl) ⟨Or.inr ⟨rfl, j, rfl, nI_lt hj (by decide), by omega, hfj⟩, rfl⟩
      | some a =>
        refine lv_astore_n (lv' := [(2, .ref a), (0, .ref (q 10)), (1, .int (nI j))]) X.x X.b (dk DX11_trayAt_0 14 rfl) rfl hl (by decide) rfl (fun ls hl => ?_)
        replace hl : lv_has ls 3 [(2, .ref a)] := lv_sub hl [0] rfl
        refine lv_aload_n X.x X.b (dk DX11_trayAt_0 15 rfl) rfl (lv_at hl 0 rfl) ?_
        refine lv_ifnonnull (tgt := 42) X.x X.b (dk DX11_trayAt_0 16 rfl) (by decide) ?_
        refine lv_aload_n X.x X.b (dk DX11_trayAt_0 22 rfl) rfl (lv_at hl 0 rfl) ?_
        exact vx_ret (W.widen (k := 1) (n := 6) (Nat.zero_le _) (Nat.zero_le _) (mr_aret X hr hlk hH ⟨j, rfl, hj, hfj, rfl⟩ (dk DX11_trayAt_0 23 rfl)))
    · exact mr_throwN X hno hlk hl.1 hst hH 17 (by decide +kernel) (by decide +kernel) (by decide +kernel) nsT_X11_295 kL_X11_291 kN_ex0 (dk DX11_trayAt_0 5 rfl) (dk DX11_trayAt_0 6 rfl) (dk DX11_trayAt_0 7 rfl) (dk DX11_trayAt_0 8 rfl) (dk DX11_trayAt_0 9 rfl) ⟨Nat.le_of_ble_eq_true rfl, Nat.le_of_ble_eq_true rfl, Nat.le_of_ble_eq_true rfl, Nat.le_of_ble_eq_true rfl⟩ (Nat.le_of_ble_eq_true rfl) (Nat.le_of_ble_eq_true rfl) ⟨Or.inl ⟨rfl, Or.inr c2⟩, rfl⟩
