-- X5_isLetter
abbrev rm_X5_isLetter : Room := { frames := 0, cells := 0, slots := 0, locals := 0 }
theorem hd_X5_isLetter : mHd yX5_isLetter 1 := ⟨by decide +kernel, by decide +kernel, by decide +kernel⟩
theorem DX5_isLetter_0 : ∀ t ∈ ([(0, .iload_n 0, 1), (1, .bipush 97, 2), (3, .if_icmp .lt 13, 3), (6, .iload_n 0, 1), (7, .bipush 122, 2), (9, .if_icmp .gt 7, 3), (12, .iconst 1, 1), (13, .goto 4, 3), (16, .iconst 0, 1), (17, .ireturn, 1)] : List (Nat × Instr × Nat)), decode cX5_isLetter t.1 = .ok (t.2.1, t.2.2) := by decide +kernel
noncomputable def f_X5_isLetter (a0 : Int32) : Option (Int32) := (if a0 < 97 then some 0 else (if 122 < a0 then some 0 else some 1))
set_option maxHeartbeats 4000000 in
set_option maxRecDepth 100000 in
theorem c_X5_isLetter {l : Launch} {G : mG} {h : mM}  {a0 : Int32} {x : Int32} (hF : f_X5_isLetter a0 = some x) : cQ l G yX5_isLetter cX5_isLetter 1 (some FieldType.boolean) rm_X5_isLetter [.int a0] (h) (mQi G (fun r h1 => r = x ∧ h1 = h)) := by
  refine mp_of (by decide +kernel) (Nat.le_of_ble_eq_true rfl) ?_
  intro p e s m below meth c X hr hlk hH hname ls hl
  dsimp only [f_X5_isLetter] at hF
  replace hl : lv_has ls 1 [(0, .int a0)] := hl
  refine lv_iload_n X.x X.b (dk DX5_isLetter_0 0 rfl) rfl (lv_at hl 0 rfl) ?_
  refine lv_bipush (v := 97) X.x X.b (dk DX5_isLetter_0 1 rfl) (by decide) ?_
  refine lv_icmp_lt (tgt := 16) X.x X.b (dk DX5_isLetter_0 2 rfl) (by decide) (fun c1 => ?_) (fun c1 => ?_)
  · replace hF := if_t hF c1
    refine lv_iconst (v := 0) X.x X.b (dk DX5_isLetter_0 8 rfl) (by decide) ?_
    cases sm hF
    exact mr_zret X hr hlk hH rfl ⟨rfl, rfl⟩ (dk DX5_isLetter_0 9 rfl)
  · replace hF := if_f hF c1
    refine lv_iload_n X.x X.b (dk DX5_isLetter_0 3 rfl) rfl (lv_at hl 0 rfl) ?_
    refine lv_bipush (v := 122) X.x X.b (dk DX5_isLetter_0 4 rfl) (by decide) ?_
    refine lv_icmp_gt (tgt := 16) X.x X.b (dk DX5_isLetter_0 5 rfl) (by decide) (fun c2 => ?_) (fun c2 => ?_)
    · replace hF := if_t hF c2
      refine lv_iconst (v := 0) X.x X.b (dk DX5_isLetter_0 8 rfl) (by decide) ?_
      cases sm hF
      exact mr_zret X hr hlk hH rfl ⟨rfl, rfl⟩ (dk DX5_isLetter_0 9 rfl)
    · replace hF := if_f hF c2
      refine lv_iconst (v := 1) X.x X.b (dk DX5_isLetter_0 6 rfl) (by decide) ?_
      refine lv_goto (tgt := 17) X.x X.b (dk DX5_isLetter_0 7 rfl) (by decide) ?_
      cases sm hF
      exact mr_zret X hr hlk hH rfl ⟨rfl, rfl⟩ (dk DX5_isLetter_0 9 rfl)
-- X5_isWord
abbrev rm_X5_isWord : Room := { frames := 4, cells := 0, slots := 0, locals := 85 }
theorem hd_X5_isWord : mHd yX5_isWord 1 := ⟨by decide +kernel, by decide +kernel, by decide +kernel⟩
theorem DX5_isWord_0 : ∀ t ∈ ([(0, .aload_n 1, 1), (1, .invokevirtual 150, 3), (4, .aload_n 0, 1), (5, .getfield 38, 3), (8, .aload_n 0, 1), (9, .getfield 112, 3), (12, .isub, 1), (13, .if_icmp .eq 5, 3), (16, .iconst 0, 1), (17, .ireturn, 1), (18, .iconst 0, 1), (19, .istore_n 2, 1), (20, .iload_n 2, 1), (21, .aload_n 1, 1), (22, .invokevirtual 150, 3), (25, .if_icmp .ge 29, 3), (28, .aload_n 1, 1), (29, .iload_n 2, 1), (30, .invokevirtual 155, 3), (33, .aload_n 0, 1), (34, .aload_n 0, 1), (35, .getfield 112, 3), (38, .iload_n 2, 1), (39, .iadd, 1), (40, .invokevirtual 115, 3), (43, .if_icmp .eq 5, 3), (46, .iconst 0, 1), (47, .ireturn, 1), (48, .iinc 2 1, 3), (51, .goto (-31), 3), (54, .iconst 1, 1), (55, .ireturn, 1)] : List (Nat × Instr × Nat)), decode cX5_isWord t.1 = .ok (t.2.1, t.2.2) := by decide +kernel
noncomputable def f_X5_isWord_20 (s_t : OS) (s_mk : OS) (a0 : Nat) : Int32 → Option ((Int32) ⊕ (Nat)) := fun b2 => (if (nI (sLen a0)) ≤ b2 then some (.inr 1) else if inb b2 (sLen a0) = true then (f_X5_byteAt s_t s_mk ((s_t.1 6) + b2)).bind (fun x4 => (if (sCh a0 (b2 : Int32).toNatClampNeg) = x4 then bnd (b2 + 1 : Int32) (fun v8 => some (.inl v8)) else some (.inr 0))) else none)
noncomputable def f_X5_isWord (st : OS) (st_mk : OS) (a0 : Nat) : Option (Int32) := (if (nI (sLen a0)) = ((st.1 7) - (st.1 6)) then (lpv (f_X5_isWord_20 st st_mk a0) 0).bind (fun x10 => (if x10 = 0 then some 0 else some 1)) else some 0)
set_option maxHeartbeats 4000000 in
set_option maxRecDepth 100000 in
theorem w_X5_isWord_20 {p : Program} {l : Launch} {e : Env} {s : State} {m : MethodId} {args : Array Value} {below : List Frame} {meth : Method} {c : Code} {Q : State → Prop} {G : mG} {h : mM} {q : Nat → Nat} {q_mk : Nat → Nat} {a0 : Nat} (hq : oinj LX5 q) (hq_mk : oinj LX3 q_mk) (ha : oap [(LX5, q), (LX3, q_mk)]) (lk_mk : q 0 = q_mk 3) (hia0 : a0 < sTab.length) (X : mX G p m c cX5_isWord 3 s args RX5) (s_t : OS) (s_mk : OS) : ∀ (z : Int32) (r : Nat), lpv (f_X5_isWord_20 s_t s_mk a0) z = some r → ∀ (H : Heap) (locs : List Loc) (ls : Array Slot), mH G (oset LX5 G q s_t (oset LX3 G q_mk s_mk h)) s.heap H locs → lv_has ls 3 [(0, .ref (q 10)), (1, .ref (sAd G a0)), (2, .int z)] → (r = 0 → ∀ (H : Heap) (locs : List Loc) (ls : Array Slot), mH G (oset LX5 G q s_t (oset LX3 G q_mk s_mk h)) s.heap H locs → lv_has ls 3 [] → W p l e rm_X5_isWord s m args below meth c H locs 0 0 Q (F0 m 46 ls [])) → (r = 1 → ∀ (H : Heap) (locs : List Loc) (ls : Array Slot), mH G (oset LX5 G q s_t (oset LX3 G q_mk s_mk h)) s.heap H locs → lv_has ls 3 [] → W p l e rm_X5_isWord s m args below meth c H locs 0 0 Q (F0 m 54 ls [])) → W p l e rm_X5_isWord s m args below meth c H locs 0 0 Q (F0 m 20 ls []) := by
  refine lpv_rec ?_
  intro z r x hF hx H locs ls hH hl K0 K1
  obtain ⟨b2, hz⟩ : ∃ y, y = z := ⟨_, rfl⟩
  subst hz
  dsimp only [f_X5_isWord_20] at hF
  refine lv_iload_n X.x X.b (dk DX5_isWord_0 12 rfl) rfl (lv_at hl 2 rfl) ?_
  refine lv_aload_n X.x X.b (dk DX5_isWord_0 13 rfl) rfl (lv_at hl 1 rfl) ?_
  refine mr_ci0 hH ⟨rfl, rfl⟩ (mr_runVO (As := []) (rest := [.int b2]) X hH (c_J0_length_8abf5 hia0) (X.z.1 a0 hia0).2.1 kM_X5_150 kI_J0_length_8abf5 kS_J0_length_8abf5 kN_J0 kC_J0_length_8abf5 hd_J0_length_8abf5 ⟨Nat.le_of_ble_eq_true rfl, Nat.le_of_ble_eq_true rfl⟩ rfl hl.1 (Nat.le_of_ble_eq_true rfl) (dk DX5_isWord_0 14 rfl) ⟨Nat.zero_le _, Nat.zero_le _⟩) (fun r h1 H locs hp hH => ?_)
  obtain ⟨hr1, hr2⟩ := hp; rw [hr1]; rw [hr2] at hH; clear hr1 hr2
  refine lv_icmp_ge (tgt := 54) X.x X.b (dk DX5_isWord_0 15 rfl) (by decide) (fun c2 => ?_) (fun c2 => ?_)
  · replace hF := if_t hF c2
    have hr9 := lp_r hF hx
    subst hr9
    exact K1 rfl _ _ _ hH (lv_sub hl [] rfl)
  · replace hF := if_f hF c2
    refine lv_aload_n X.x X.b (dk DX5_isWord_0 16 rfl) rfl (lv_at hl 1 rfl) ?_
    refine lv_iload_n X.x X.b (dk DX5_isWord_0 17 rfl) rfl (lv_at hl 2 rfl) ?_
    obtain ⟨c3, hF⟩ := gd hF
    refine mr_ci0 hH ⟨rfl, rfl⟩ (mr_runVO (As := [.int b2]) (rest := []) X hH (c_charAt hia0 (inb_in c3)) (X.z.1 a0 hia0).2.1 kM_X5_155 kI_J0_charAt_5068e kS_J0_charAt_5068e kN_J0 kC_J0_charAt_5068e hd_J0_charAt_5068e ⟨Nat.le_of_ble_eq_true rfl, Nat.le_of_ble_eq_true rfl⟩ rfl hl.1 (Nat.le_of_ble_eq_true rfl) (dk DX5_isWord_0 18 rfl) ⟨Nat.zero_le _, Nat.zero_le _⟩) (fun r h1 H locs hp hH => ?_)
    obtain ⟨hr1, hr2⟩ := hp; rw [hr1]; rw [hr2] at hH; clear hr1 hr2
    refine lv_aload_n X.x X.b (dk DX5_isWord_0 19 rfl) rfl (lv_at hl 0 rfl) ?_
    refine lv_aload_n X.x X.b (dk DX5_isWord_0 20 rfl) rfl (lv_at hl 0 rfl) ?_
    refine og_getI OX5 X hq hH 6 (by decide) rfl kF_X5_112 (dk DX5_isWord_0 21 rfl) ?_
    refine lv_iload_n X.x X.b (dk DX5_isWord_0 22 rfl) rfl (lv_at hl 2 rfl) ?_
    refine lv_iadd X.x X.b (dk DX5_isWord_0 23 rfl) ?_
    obtain ⟨x4, e5, hF⟩ := bd hF
    refine mr_ci0 hH ⟨rfl, rfl⟩ (mr_runV (As := [.int ((s_t.1 6) + b2)]) (rest := [.int (sCh a0 (b2 : Int32).toNatClampNeg)]) X hH (c_X5_byteAt hq hq_mk ha lk_mk e5) ((oset_at hq (Nat.le_refl _) ohas_N).trans (congrArg some ocell_N)) OX5.1 kM_X5_115 kI_X5_byteAt kS_X5_byteAt kN_X5 kC_X5_byteAt hd_X5_byteAt ⟨Nat.le_of_ble_eq_true rfl, Nat.le_of_ble_eq_true rfl⟩ rfl hl.1 (Nat.le_of_ble_eq_true rfl) (dk DX5_isWord_0 24 rfl) ⟨Nat.zero_le _, Nat.zero_le _⟩) (fun r h1 H locs hp hH => ?_)
    obtain ⟨hr1, hr2⟩ := hp; rw [hr1]; rw [hr2] at hH; clear hr1 hr2
    refine lv_icmp_eq (tgt := 48) X.x X.b (dk DX5_isWord_0 25 rfl) (by decide) (fun c7 => ?_) (fun c7 => ?_)
    · replace hF := if_t hF c7
      obtain ⟨v8, e9⟩ : ∃ y : Int32, y = b2 + 1 := ⟨_, rfl⟩
      replace hF := bnd_e hF e9
      refine lv_iinc (v := v8) (lv' := [(2, .int v8), (0, .ref (q 10)), (1, .ref (sAd G a0))]) X.x X.b (dk DX5_isWord_0 28 rfl) hl (k := 2) rfl (by rw [e9]; rfl) (by decide) rfl (fun ls hl => ?_)
      replace hl : lv_has ls 3 [(0, .ref (q 10)), (1, .ref (sAd G a0)), (2, .int v8)] := lv_sub hl [1, 2, 0] rfl
      refine lv_goto (tgt := 20) X.x X.b (dk DX5_isWord_0 29 rfl) (by decide) ?_
      exact (lp_l hF hx) _ _ _ hH (lv_sub hl [0, 1, 2] rfl) K0 K1
    · replace hF := if_f hF c7
      have hr9 := lp_r hF hx
      subst hr9
      exact K0 rfl _ _ _ hH (lv_sub hl [] rfl)
set_option maxHeartbeats 4000000 in
set_option maxRecDepth 100000 in
theorem c_X5_isWord {l : Launch} {G : mG} {h : mM} {q : Nat → Nat} {q_mk : Nat → Nat} {a0 : Nat} (hq : oinj LX5 q) (hq_mk : oinj LX3 q_mk) (ha : oap [(LX5, q), (LX3, q_mk)]) (lk_mk : q 0 = q_mk 3) (hia0 : a0 < sTab.length) {st : OS} {st_mk : OS} {x : Int32} (hF : f_X5_isWord st st_mk a0 = some x) : cQ l G yX5_isWord cX5_isWord 3 (some FieldType.boolean) rm_X5_isWord [.ref (q 10), .ref (sAd G a0)] (oset LX5 G q st (oset LX3 G q_mk st_mk h)) (mQi G (fun r h1 => r = x ∧ h1 = oset LX5 G q st (oset LX3 G q_mk st_mk h))) := by
  refine mp_of (by decide +kernel) (Nat.le_of_ble_eq_true rfl) ?_
  intro p e s m below meth c X hr hlk hH hname ls hl
  dsimp only [f_X5_isWord] at hF
  replace hl : lv_has ls 3 [(0, .ref (q 10)), (1, .ref (sAd G a0))] := hl
  refine lv_aload_n X.x X.b (dk DX5_isWord_0 0 rfl) rfl (lv_at hl 1 rfl) ?_
  refine mr_ci0 hH ⟨rfl, rfl⟩ (mr_runVO (As := []) (rest := []) X hH (c_J0_length_8abf5 hia0) (X.z.1 a0 hia0).2.1 kM_X5_150 kI_J0_length_8abf5 kS_J0_length_8abf5 kN_J0 kC_J0_length_8abf5 hd_J0_length_8abf5 ⟨Nat.le_of_ble_eq_true rfl, Nat.le_of_ble_eq_true rfl⟩ rfl hl.1 (Nat.le_of_ble_eq_true rfl) (dk DX5_isWord_0 1 rfl) ⟨Nat.zero_le _, Nat.zero_le _⟩) (fun r h1 H locs hp hH => ?_)
  obtain ⟨hr1, hr2⟩ := hp; rw [hr1]; rw [hr2] at hH; clear hr1 hr2
  refine lv_aload_n X.x X.b (dk DX5_isWord_0 2 rfl) rfl (lv_at hl 0 rfl) ?_
  refine og_getI OX5 X hq hH 7 (by decide) rfl kF_X5_38 (dk DX5_isWord_0 3 rfl) ?_
  refine lv_aload_n X.x X.b (dk DX5_isWord_0 4 rfl) rfl (lv_at hl 0 rfl) ?_
  refine og_getI OX5 X hq hH 6 (by decide) rfl kF_X5_112 (dk DX5_isWord_0 5 rfl) ?_
  refine lv_isub X.x X.b (dk DX5_isWord_0 6 rfl) ?_
  refine lv_icmp_eq (tgt := 18) X.x X.b (dk DX5_isWord_0 7 rfl) (by decide) (fun c1 => ?_) (fun c1 => ?_)
  · replace hF := if_t hF c1
    refine lv_iconst (v := 0) X.x X.b (dk DX5_isWord_0 10 rfl) (by decide) ?_
    refine lv_istore_n (lv' := [(2, .int 0), (0, .ref (q 10)), (1, .ref (sAd G a0))]) X.x X.b (dk DX5_isWord_0 11 rfl) rfl hl (by decide) rfl (fun ls hl => ?_)
    replace hl : lv_has ls 3 [(0, .ref (q 10)), (1, .ref (sAd G a0)), (2, .int 0)] := lv_sub hl [1, 2, 0] rfl
    obtain ⟨x10, e11, hF⟩ := bd hF
    replace hl : lv_has ls 3 [(0, .ref (q 10)), (1, .ref (sAd G a0)), (2, .int 0)] := lv_sub hl [0, 1, 2] rfl
    refine w_X5_isWord_20 hq hq_mk ha lk_mk hia0 X st st_mk _ _ e11 _ _ _ hH hl (fun hk H locs ls hH hl => ?_) (fun hk H locs ls hH hl => ?_)
    · subst hk
      replace hF := if_t hF rfl
      refine lv_iconst (v := 0) X.x X.b (dk DX5_isWord_0 26 rfl) (by decide) ?_
      cases sm hF
      exact mr_zret X hr hlk hH rfl ⟨rfl, rfl⟩ (dk DX5_isWord_0 27 rfl)
    · subst hk
      replace hF := if_f hF (by decide)
      refine lv_iconst (v := 1) X.x X.b (dk DX5_isWord_0 30 rfl) (by decide) ?_
      cases sm hF
      exact mr_zret X hr hlk hH rfl ⟨rfl, rfl⟩ (dk DX5_isWord_0 31 rfl)
  · replace hF := if_f hF c1
    refine lv_iconst (v := 0) X.x X.b (dk DX5_isWord_0 8 rfl) (by decide) ?_
    cases sm hF
    exact mr_zret X hr hlk hH rfl ⟨rfl, rfl⟩ (dk DX5_isWord_0 9 rfl)
-- X5_stepWord
abbrev rm_X5_stepWord : Room := { frames := 5, cells := 0, slots := 0, locals := 107 }
theorem hd_X5_stepWord : mHd yX5_stepWord 0 := ⟨by decide +kernel, by decide +kernel, by decide +kernel⟩
theorem DX5_stepWord_0 : ∀ t ∈ ([(0, .aload_n 0, 1), (1, .getfield 38, 3), (4, .aload_n 0, 1), (5, .getfield 35, 3), (8, .if_icmp .ge 30, 3), (11, .aload_n 0, 1), (12, .aload_n 0, 1), (13, .getfield 38, 3), (16, .invokevirtual 115, 3), (19, .invokestatic 128, 3), (22, .ifCond .eq 16, 3), (25, .aload_n 0, 1), (26, .dup, 1), (27, .getfield 38, 3), (30, .iconst 1, 1), (31, .iadd, 1), (32, .putfield 38, 3), (35, .goto (-35), 3), (38, .aload_n 0, 1), (39, .iconst 4, 1), (40, .putfield 53, 3), (43, .aload_n 0, 1), (44, .ldc 134, 2), (46, .invokevirtual 136, 3), (49, .ifCond .eq 11, 3), (52, .aload_n 0, 1), (53, .iconst 5, 1), (54, .putfield 53, 3), (57, .goto 90, 3), (60, .aload_n 0, 1), (61, .ldc 140, 2), (63, .invokevirtual 136, 3), (66, .ifCond .eq 12, 3), (69, .aload_n 0, 1), (70, .bipush 6, 2), (72, .putfield 53, 3), (75, .goto 72, 3), (78, .aload_n 0, 1), (79, .ldc 142, 2), (81, .invokevirtual 136, 3), (84, .ifCond .eq 12, 3), (87, .aload_n 0, 1), (88, .bipush 7, 2), (90, .putfield 53, 3), (93, .goto 54, 3), (96, .aload_n 0, 1), (97, .ldc 144, 2), (99, .invokevirtual 136, 3), (102, .ifCond .eq 12, 3), (105, .aload_n 0, 1), (106, .bipush 8, 2), (108, .putfield 53, 3), (111, .goto 36, 3), (114, .aload_n 0, 1), (115, .ldc 146, 2), (117, .invokevirtual 136, 3), (120, .ifCond .eq 12, 3), (123, .aload_n 0, 1), (124, .bipush 9, 2), (126, .putfield 53, 3)] : List (Nat × Instr × Nat)), decode cX5_stepWord t.1 = .ok (t.2.1, t.2.2) := by decide +kernel
theorem DX5_stepWord_1 : ∀ t ∈ ([(129, .goto 18, 3), (132, .aload_n 0, 1), (133, .ldc 148, 2), (135, .invokevirtual 136, 3), (138, .ifCond .eq 9, 3), (141, .aload_n 0, 1), (142, .bipush 10, 2), (144, .putfield 53, 3), (147, .return_, 1)] : List (Nat × Instr × Nat)), decode cX5_stepWord t.1 = .ok (t.2.1, t.2.2) := by decide +kernel
noncomputable def f_X5_stepWord_0 (s_mk : OS) : OS → Option ((OS) ⊕ (OS)) := fun s_t => (if (s_t.1 3) ≤ (s_t.1 7) then some (.inr s_t) else (f_X5_byteAt s_t s_mk (s_t.1 7)).bind (fun x2 => (f_X5_isLetter x2).bind (fun x5 => (if x5 = 0 then some (.inr s_t) else bnd (oI s_t 7 ((s_t.1 7) + 1)) (fun t9 => some (.inl t9))))))
noncomputable def f_X5_stepWord (st : OS) (st_mk : OS) : Option (OS) := (lpv (f_X5_stepWord_0 st_mk) st).bind (fun x11 => bnd (oI x11 4 4) (fun t14 => (f_X5_isWord t14 st_mk 1).bind (fun x16 => (if x16 = 0 then (f_X5_isWord t14 st_mk 2).bind (fun x20 => (if x20 = 0 then (f_X5_isWord t14 st_mk 3).bind (fun x24 => (if x24 = 0 then (f_X5_isWord t14 st_mk 4).bind (fun x28 => (if x28 = 0 then (f_X5_isWord t14 st_mk 5).bind (fun x32 => (if x32 = 0 then (f_X5_isWord t14 st_mk 6).bind (fun x36 => (if x36 = 0 then some t14 else bnd (oI t14 4 10) (fun t40 => some t40))) else bnd (oI t14 4 9) (fun t42 => some t42))) else bnd (oI t14 4 8) (fun t44 => some t44))) else bnd (oI t14 4 7) (fun t46 => some t46))) else bnd (oI t14 4 6) (fun t48 => some t48))) else bnd (oI t14 4 5) (fun t50 => some t50)))))
set_option maxHeartbeats 4000000 in
set_option maxRecDepth 100000 in
theorem w_X5_stepWord_0 {p : Program} {l : Launch} {e : Env} {s : State} {m : MethodId} {args : Array Value} {below : List Frame} {meth : Method} {c : Code} {Q : State → Prop} {G : mG} {h : mM} {q : Nat → Nat} {q_mk : Nat → Nat} (hq : oinj LX5 q) (hq_mk : oinj LX3 q_mk) (ha : oap [(LX5, q), (LX3, q_mk)]) (lk_mk : q 0 = q_mk 3) (X : mX G p m c cX5_stepWord 1 s args RX5) (s_mk : OS) : ∀ (z : OS) (r : OS), lpv (f_X5_stepWord_0 s_mk) z = some r → ∀ (H : Heap) (locs : List Loc) (ls : Array Slot), mH G (oset LX5 G q z (oset LX3 G q_mk s_mk h)) s.heap H locs → lv_has ls 1 [(0, .ref (q 10))] → (∀ (H : Heap) (locs : List Loc) (ls : Array Slot), mH G (oset LX5 G q r (oset LX3 G q_mk s_mk h)) s.heap H locs → lv_has ls 1 [(0, .ref (q 10))] → W p l e rm_X5_stepWord s m args below meth c H locs 0 0 Q (F0 m 38 ls [])) → W p l e rm_X5_stepWord s m args below meth c H locs 0 0 Q (F0 m 0 ls []) := by
  refine lpv_rec ?_
  intro z r x hF hx H locs ls hH hl K0
  obtain ⟨s_t, hz⟩ : ∃ y, y = z := ⟨_, rfl⟩
  subst hz
  dsimp only [f_X5_stepWord_0] at hF
  refine lv_aload_n X.x X.b (dk DX5_stepWord_0 0 rfl) rfl (lv_at hl 0 rfl) ?_
  refine og_getI OX5 X hq hH 7 (by decide) rfl kF_X5_38 (dk DX5_stepWord_0 1 rfl) ?_
  refine lv_aload_n X.x X.b (dk DX5_stepWord_0 2 rfl) rfl (lv_at hl 0 rfl) ?_
  refine og_getI OX5 X hq hH 3 (by decide) rfl kF_X5_35 (dk DX5_stepWord_0 3 rfl) ?_
  refine lv_icmp_ge (tgt := 38) X.x X.b (dk DX5_stepWord_0 4 rfl) (by decide) (fun c1 => ?_) (fun c1 => ?_)
  · replace hF := if_t hF c1
    have hr9 := lp_r hF hx
    subst hr9
    exact K0 _ _ _ hH (lv_sub hl [0] rfl)
  · replace hF := if_f hF c1
    refine lv_aload_n X.x X.b (dk DX5_stepWord_0 5 rfl) rfl (lv_at hl 0 rfl) ?_
    refine lv_aload_n X.x X.b (dk DX5_stepWord_0 6 rfl) rfl (lv_at hl 0 rfl) ?_
    refine og_getI OX5 X hq hH 7 (by decide) rfl kF_X5_38 (dk DX5_stepWord_0 7 rfl) ?_
    obtain ⟨x2, e3, hF⟩ := bd hF
    refine mr_ci0 hH ⟨rfl, rfl⟩ (mr_runV (As := [.int (s_t.1 7)]) (rest := []) X hH (c_X5_byteAt hq hq_mk ha lk_mk e3) ((oset_at hq (Nat.le_refl _) ohas_N).trans (congrArg some ocell_N)) OX5.1 kM_X5_115 kI_X5_byteAt kS_X5_byteAt kN_X5 kC_X5_byteAt hd_X5_byteAt ⟨Nat.le_of_ble_eq_true rfl, Nat.le_of_ble_eq_true rfl⟩ rfl hl.1 (Nat.le_of_ble_eq_true rfl) (dk DX5_stepWord_0 8 rfl) ⟨Nat.zero_le _, Nat.zero_le _⟩) (fun r h1 H locs hp hH => ?_)
    obtain ⟨hr1, hr2⟩ := hp; rw [hr1]; rw [hr2] at hH; clear hr1 hr2
    obtain ⟨x5, e6, hF⟩ := bd hF
    refine mr_ci0 hH ⟨rfl, rfl⟩ (mr_runS (As := [.int x2]) (rest := []) X hH (c_X5_isLetter e6) kM_X5_128 kT_X5_isLetter kN_X5 kC_X5_isLetter hd_X5_isLetter ⟨Nat.le_of_ble_eq_true rfl, Nat.le_of_ble_eq_true rfl⟩ rfl hl.1 (Nat.le_of_ble_eq_true rfl) (dk DX5_stepWord_0 9 rfl) ⟨Nat.zero_le _, Nat.zero_le _⟩) (fun r h1 H locs hp hH => ?_)
    obtain ⟨hr1, hr2⟩ := hp; rw [hr1]; rw [hr2] at hH; clear hr1 hr2
    refine lv_if_eq (tgt := 38) X.x X.b (dk DX5_stepWord_0 10 rfl) (by decide) (fun c8 => ?_) (fun c8 => ?_)
    · replace hF := if_t hF c8
      have hr9 := lp_r hF hx
      subst hr9
      exact K0 _ _ _ hH (lv_sub hl [0] rfl)
    · replace hF := if_f hF c8
      refine lv_aload_n X.x X.b (dk DX5_stepWord_0 11 rfl) rfl (lv_at hl 0 rfl) ?_
      refine lv_dup X.x X.b (dk DX5_stepWord_0 12 rfl) rfl ?_
      refine og_getI OX5 X hq hH 7 (by decide) rfl kF_X5_38 (dk DX5_stepWord_0 13 rfl) ?_
      refine lv_iconst (v := 1) X.x X.b (dk DX5_stepWord_0 14 rfl) (by decide) ?_
      refine lv_iadd X.x X.b (dk DX5_stepWord_0 15 rfl) ?_
      refine og_putI OX5 X hq hH 7 (by decide) rfl kF_X5_38 rfl rfl rfl (dk DX5_stepWord_0 16 rfl) (fun H locs hH => ?_)
      obtain ⟨t9, e10⟩ : ∃ y, y = oI s_t 7 ((s_t.1 7) + 1) := ⟨_, rfl⟩
      rw [← e10] at hH
      replace hF := bnd_e hF e10
      refine lv_goto (tgt := 0) X.x X.b (dk DX5_stepWord_0 17 rfl) (by decide) ?_
      exact (lp_l hF hx) _ _ _ hH (lv_sub hl [0] rfl) K0
set_option maxHeartbeats 4000000 in
set_option maxRecDepth 100000 in
theorem c_X5_stepWord {l : Launch} {G : mG} {h : mM} {q : Nat → Nat} {q_mk : Nat → Nat} (hq : oinj LX5 q) (hq_mk : oinj LX3 q_mk) (ha : oap [(LX5, q), (LX3, q_mk)]) (lk_mk : q 0 = q_mk 3) {st : OS} {st_mk : OS} {x : OS} (hF : f_X5_stepWord st st_mk = some x) : cQ l G yX5_stepWord cX5_stepWord 1 none rm_X5_stepWord [.ref (q 10)] (oset LX5 G q st (oset LX3 G q_mk st_mk h)) (mQv G (fun h1 => h1 = oset LX5 G q x (oset LX3 G q_mk st_mk h))) := by
  refine mp_of (by decide +kernel) (Nat.le_of_ble_eq_true rfl) ?_
  intro p e s m below meth c X hr hlk hH hname ls hl
  dsimp only [f_X5_stepWord] at hF
  replace hl : lv_has ls 1 [(0, .ref (q 10))] := hl
  obtain ⟨x11, e12, hF⟩ := bd hF
  replace hl : lv_has ls 1 [(0, .ref (q 10))] := lv_sub hl [0] rfl
  refine w_X5_stepWord_0 hq hq_mk ha lk_mk X st_mk _ _ e12 _ _ _ hH hl (fun H locs ls hH hl => ?_)
  refine lv_aload_n X.x X.b (dk DX5_stepWord_0 18 rfl) rfl (lv_at hl 0 rfl) ?_
  refine lv_iconst (v := 4) X.x X.b (dk DX5_stepWord_0 19 rfl) (by decide) ?_
  refine og_putI OX5 X hq hH 4 (by decide) rfl kF_X5_53 rfl rfl rfl (dk DX5_stepWord_0 20 rfl) (fun H locs hH => ?_)
  obtain ⟨t14, e15⟩ : ∃ y, y = oI x11 4 4 := ⟨_, rfl⟩
  rw [← e15] at hH
  replace hF := bnd_e hF e15
  refine lv_aload_n X.x X.b (dk DX5_stepWord_0 21 rfl) rfl (lv_at hl 0 rfl) ?_
  refine mr_ldcS X 1 (by decide +kernel) rfl rfl (dk DX5_stepWord_0 22 rfl) ?_
  obtain ⟨x16, e17, hF⟩ := bd hF
  refine mr_ci0 hH ⟨rfl, rfl⟩ (mr_runV (As := [.ref (sAd G 1)]) (rest := []) X hH (c_X5_isWord hq hq_mk ha lk_mk (by decide +kernel) e17) ((oset_at hq (Nat.le_refl _) ohas_N).trans (congrArg some ocell_N)) OX5.1 kM_X5_136 kI_X5_isWord kS_X5_isWord kN_X5 kC_X5_isWord hd_X5_isWord ⟨Nat.le_of_ble_eq_true rfl, Nat.le_of_ble_eq_true rfl⟩ rfl hl.1 (Nat.le_of_ble_eq_true rfl) (dk DX5_stepWord_0 23 rfl) ⟨Nat.zero_le _, Nat.zero_le _⟩) (fun r h1 H locs hp hH => ?_)
  obtain ⟨hr1, hr2⟩ := hp; rw [hr1]; rw [hr2] at hH; clear hr1 hr2
  refine lv_if_eq (tgt := 60) X.x X.b (dk DX5_stepWord_0 24 rfl) (by decide) (fun c19 => ?_) (fun c19 => ?_)
  · replace hF := if_t hF c19
    refine lv_aload_n X.x X.b (dk DX5_stepWord_0 29 rfl) rfl (lv_at hl 0 rfl) ?_
    refine mr_ldcS X 2 (by decide +kernel) rfl rfl (dk DX5_stepWord_0 30 rfl) ?_
    obtain ⟨x20, e21, hF⟩ := bd hF
    refine mr_ci0 hH ⟨rfl, rfl⟩ (mr_runV (As := [.ref (sAd G 2)]) (rest := []) X hH (c_X5_isWord hq hq_mk ha lk_mk (by decide +kernel) e21) ((oset_at hq (Nat.le_refl _) ohas_N).trans (congrArg some ocell_N)) OX5.1 kM_X5_136 kI_X5_isWord kS_X5_isWord kN_X5 kC_X5_isWord hd_X5_isWord ⟨Nat.le_of_ble_eq_true rfl, Nat.le_of_ble_eq_true rfl⟩ rfl hl.1 (Nat.le_of_ble_eq_true rfl) (dk DX5_stepWord_0 31 rfl) ⟨Nat.zero_le _, Nat.zero_le _⟩) (fun r h1 H locs hp hH => ?_)
    obtain ⟨hr1, hr2⟩ := hp; rw [hr1]; rw [hr2] at hH; clear hr1 hr2
    refine lv_if_eq (tgt := 78) X.x X.b (dk DX5_stepWord_0 32 rfl) (by decide) (fun c23 => ?_) (fun c23 => ?_)
    · replace hF := if_t hF c23
      refine lv_aload_n X.x X.b (dk DX5_stepWord_0 37 rfl) rfl (lv_at hl 0 rfl) ?_
      refine mr_ldcS X 3 (by decide +kernel) rfl rfl (dk DX5_stepWord_0 38 rfl) ?_
      obtain ⟨x24, e25, hF⟩ := bd hF
      refine mr_ci0 hH ⟨rfl, rfl⟩ (mr_runV (As := [.ref (sAd G 3)]) (rest := []) X hH (c_X5_isWord hq hq_mk ha lk_mk (by decide +kernel) e25) ((oset_at hq (Nat.le_refl _) ohas_N).trans (congrArg some ocell_N)) OX5.1 kM_X5_136 kI_X5_isWord kS_X5_isWord kN_X5 kC_X5_isWord hd_X5_isWord ⟨Nat.le_of_ble_eq_true rfl, Nat.le_of_ble_eq_true rfl⟩ rfl hl.1 (Nat.le_of_ble_eq_true rfl) (dk DX5_stepWord_0 39 rfl) ⟨Nat.zero_le _, Nat.zero_le _⟩) (fun r h1 H locs hp hH => ?_)
      obtain ⟨hr1, hr2⟩ := hp; rw [hr1]; rw [hr2] at hH; clear hr1 hr2
      refine lv_if_eq (tgt := 96) X.x X.b (dk DX5_stepWord_0 40 rfl) (by decide) (fun c27 => ?_) (fun c27 => ?_)
      · replace hF := if_t hF c27
        refine lv_aload_n X.x X.b (dk DX5_stepWord_0 45 rfl) rfl (lv_at hl 0 rfl) ?_
        refine mr_ldcS X 4 (by decide +kernel) rfl rfl (dk DX5_stepWord_0 46 rfl) ?_
        obtain ⟨x28, e29, hF⟩ := bd hF
        refine mr_ci0 hH ⟨rfl, rfl⟩ (mr_runV (As := [.ref (sAd G 4)]) (rest := []) X hH (c_X5_isWord hq hq_mk ha lk_mk (by decide +kernel) e29) ((oset_at hq (Nat.le_refl _) ohas_N).trans (congrArg some ocell_N)) OX5.1 kM_X5_136 kI_X5_isWord kS_X5_isWord kN_X5 kC_X5_isWord hd_X5_isWord ⟨Nat.le_of_ble_eq_true rfl, Nat.le_of_ble_eq_true rfl⟩ rfl hl.1 (Nat.le_of_ble_eq_true rfl) (dk DX5_stepWord_0 47 rfl) ⟨Nat.zero_le _, Nat.zero_le _⟩) (fun r h1 H locs hp hH => ?_)
        obtain ⟨hr1, hr2⟩ := hp; rw [hr1]; rw [hr2] at hH; clear hr1 hr2
        refine lv_if_eq (tgt := 114) X.x X.b (dk DX5_stepWord_0 48 rfl) (by decide) (fun c31 => ?_) (fun c31 => ?_)
        · replace hF := if_t hF c31
          refine lv_aload_n X.x X.b (dk DX5_stepWord_0 53 rfl) rfl (lv_at hl 0 rfl) ?_
          refine mr_ldcS X 5 (by decide +kernel) rfl rfl (dk DX5_stepWord_0 54 rfl) ?_
          obtain ⟨x32, e33, hF⟩ := bd hF
          refine mr_ci0 hH ⟨rfl, rfl⟩ (mr_runV (As := [.ref (sAd G 5)]) (rest := []) X hH (c_X5_isWord hq hq_mk ha lk_mk (by decide +kernel) e33) ((oset_at hq (Nat.le_refl _) ohas_N).trans (congrArg some ocell_N)) OX5.1 kM_X5_136 kI_X5_isWord kS_X5_isWord kN_X5 kC_X5_isWord hd_X5_isWord ⟨Nat.le_of_ble_eq_true rfl, Nat.le_of_ble_eq_true rfl⟩ rfl hl.1 (Nat.le_of_ble_eq_true rfl) (dk DX5_stepWord_0 55 rfl) ⟨Nat.zero_le _, Nat.zero_le _⟩) (fun r h1 H locs hp hH => ?_)
          obtain ⟨hr1, hr2⟩ := hp; rw [hr1]; rw [hr2] at hH; clear hr1 hr2
          refine lv_if_eq (tgt := 132) X.x X.b (dk DX5_stepWord_0 56 rfl) (by decide) (fun c35 => ?_) (fun c35 => ?_)
          · replace hF := if_t hF c35
            refine lv_aload_n X.x X.b (dk DX5_stepWord_1 1 rfl) rfl (lv_at hl 0 rfl) ?_
            refine mr_ldcS X 6 (by decide +kernel) rfl rfl (dk DX5_stepWord_1 2 rfl) ?_
            obtain ⟨x36, e37, hF⟩ := bd hF
            refine mr_ci0 hH ⟨rfl, rfl⟩ (mr_runV (As := [.ref (sAd G 6)]) (rest := []) X hH (c_X5_isWord hq hq_mk ha lk_mk (by decide +kernel) e37) ((oset_at hq (Nat.le_refl _) ohas_N).trans (congrArg some ocell_N)) OX5.1 kM_X5_136 kI_X5_isWord kS_X5_isWord kN_X5 kC_X5_isWord hd_X5_isWord ⟨Nat.le_of_ble_eq_true rfl, Nat.le_of_ble_eq_true rfl⟩ rfl hl.1 (Nat.le_of_ble_eq_true rfl) (dk DX5_stepWord_1 3 rfl) ⟨Nat.zero_le _, Nat.zero_le _⟩) (fun r h1 H locs hp hH => ?_)
            obtain ⟨hr1, hr2⟩ := hp; rw [hr1]; rw [hr2] at hH; clear hr1 hr2
            refine lv_if_eq (tgt := 147) X.x X.b (dk DX5_stepWord_1 4 rfl) (by decide) (fun c39 => ?_) (fun c39 => ?_)
            · replace hF := if_t hF c39
              cases sm hF
              exact mr_vret X hr hlk hH rfl (dk DX5_stepWord_1 8 rfl)
            · replace hF := if_f hF c39
              refine lv_aload_n X.x X.b (dk DX5_stepWord_1 5 rfl) rfl (lv_at hl 0 rfl) ?_
              refine lv_bipush (v := 10) X.x X.b (dk DX5_stepWord_1 6 rfl) (by decide) ?_
              refine og_putI OX5 X hq hH 4 (by decide) rfl kF_X5_53 rfl rfl rfl (dk DX5_stepWord_1 7 rfl) (fun H locs hH => ?_)
              obtain ⟨t40, e41⟩ : ∃ y, y = oI t14 4 10 := ⟨_, rfl⟩
              rw [← e41] at hH
              replace hF := bnd_e hF e41
              cases sm hF
              exact mr_vret X hr hlk hH rfl (dk DX5_stepWord_1 8 rfl)
          · replace hF := if_f hF c35
            refine lv_aload_n X.x X.b (dk DX5_stepWord_0 57 rfl) rfl (lv_at hl 0 rfl) ?_
            refine lv_bipush (v := 9) X.x X.b (dk DX5_stepWord_0 58 rfl) (by decide) ?_
            refine og_putI OX5 X hq hH 4 (by decide) rfl kF_X5_53 rfl rfl rfl (dk DX5_stepWord_0 59 rfl) (fun H locs hH => ?_)
            obtain ⟨t42, e43⟩ : ∃ y, y = oI t14 4 9 := ⟨_, rfl⟩
            rw [← e43] at hH
            replace hF := bnd_e hF e43
            refine lv_goto (tgt := 147) X.x X.b (dk DX5_stepWord_1 0 rfl) (by decide) ?_
            cases sm hF
            exact mr_vret X hr hlk hH rfl (dk DX5_stepWord_1 8 rfl)
        · replace hF := if_f hF c31
          refine lv_aload_n X.x X.b (dk DX5_stepWord_0 49 rfl) rfl (lv_at hl 0 rfl) ?_
          refine lv_bipush (v := 8) X.x X.b (dk DX5_stepWord_0 50 rfl) (by decide) ?_
          refine og_putI OX5 X hq hH 4 (by decide) rfl kF_X5_53 rfl rfl rfl (dk DX5_stepWord_0 51 rfl) (fun H locs hH => ?_)
          obtain ⟨t44, e45⟩ : ∃ y, y = oI t14 4 8 := ⟨_, rfl⟩
          rw [← e45] at hH
          replace hF := bnd_e hF e45
          refine lv_goto (tgt := 147) X.x X.b (dk DX5_stepWord_0 52 rfl) (by decide) ?_
          cases sm hF
          exact mr_vret X hr hlk hH rfl (dk DX5_stepWord_1 8 rfl)
      · replace hF := if_f hF c27
        refine lv_aload_n X.x X.b (dk DX5_stepWord_0 41 rfl) rfl (lv_at hl 0 rfl) ?_
        refine lv_bipush (v := 7) X.x X.b (dk DX5_stepWord_0 42 rfl) (by decide) ?_
        refine og_putI OX5 X hq hH 4 (by decide) rfl kF_X5_53 rfl rfl rfl (dk DX5_stepWord_0 43 rfl) (fun H locs hH => ?_)
        obtain ⟨t46, e47⟩ : ∃ y, y = oI t14 4 7 := ⟨_, rfl⟩
        rw [← e47] at hH
        replace hF := bnd_e hF e47
        refine lv_goto (tgt := 147) X.x X.b (dk DX5_stepWord_0 44 rfl) (by decide) ?_
        cases sm hF
        exact mr_vret X hr hlk hH rfl (dk DX5_stepWord_1 8 rfl)
    · replace hF := if_f hF c23
      refine lv_aload_n X.x X.b (dk DX5_stepWord_0 33 rfl) rfl (lv_at hl 0 rfl) ?_
      refine lv_bipush (v := 6) X.x X.b (dk DX5_stepWord_0 34 rfl) (by decide) ?_
      refine og_putI OX5 X hq hH 4 (by decide) rfl kF_X5_53 rfl rfl rfl (dk DX5_stepWord_0 35 rfl) (fun H locs hH => ?_)
      obtain ⟨t48, e49⟩ : ∃ y, y = oI t14 4 6 := ⟨_, rfl⟩
      rw [← e49] at hH
      replace hF := bnd_e hF e49
      refine lv_goto (tgt := 147) X.x X.b (dk DX5_stepWord_0 36 rfl) (by decide) ?_
      cases sm hF
      exact mr_vret X hr hlk hH rfl (dk DX5_stepWord_1 8 rfl)
  · replace hF := if_f hF c19
    refine lv_aload_n X.x X.b (dk DX5_stepWord_0 25 rfl) rfl (lv_at hl 0 rfl) ?_
    refine lv_iconst (v := 5) X.x X.b (dk DX5_stepWord_0 26 rfl) (by decide) ?_
    refine og_putI OX5 X hq hH 4 (by decide) rfl kF_X5_53 rfl rfl rfl (dk DX5_stepWord_0 27 rfl) (fun H locs hH => ?_)
    obtain ⟨t50, e51⟩ : ∃ y, y = oI t14 4 5 := ⟨_, rfl⟩
    rw [← e51] at hH
    replace hF := bnd_e hF e51
    refine lv_goto (tgt := 147) X.x X.b (dk DX5_stepWord_0 28 rfl) (by decide) ?_
    cases sm hF
    exact mr_vret X hr hlk hH rfl (dk DX5_stepWord_1 8 rfl)
-- X5_step
abbrev rm_X5_step : Room := { frames := 6, cells := 0, slots := 0, locals := 127 }
theorem hd_X5_step : mHd yX5_step 0 := ⟨by decide +kernel, by decide +kernel, by decide +kernel⟩
theorem DX5_step_0 : ∀ t ∈ ([(0, .aload_n 0, 1), (1, .aload_n 0, 1), (2, .getfield 38, 3), (5, .putfield 112, 3), (8, .aload_n 0, 1), (9, .getfield 112, 3), (12, .aload_n 0, 1), (13, .getfield 35, 3), (16, .if_icmp .ge 30, 3), (19, .aload_n 0, 1), (20, .aload_n 0, 1), (21, .getfield 112, 3), (24, .invokevirtual 115, 3), (27, .invokestatic 119, 3), (30, .ifCond .eq 16, 3), (33, .aload_n 0, 1), (34, .dup, 1), (35, .getfield 112, 3), (38, .iconst 1, 1), (39, .iadd, 1), (40, .putfield 112, 3), (43, .goto (-35), 3), (46, .aload_n 0, 1), (47, .aload_n 0, 1), (48, .getfield 112, 3), (51, .putfield 38, 3), (54, .aload_n 0, 1), (55, .getfield 112, 3), (58, .aload_n 0, 1), (59, .getfield 35, 3), (62, .if_icmp .lt 9, 3), (65, .aload_n 0, 1), (66, .iconst 0, 1), (67, .putfield 53, 3), (70, .return_, 1), (71, .aload_n 0, 1), (72, .dup, 1), (73, .getfield 38, 3), (76, .iconst 1, 1), (77, .iadd, 1), (78, .putfield 38, 3), (81, .aload_n 0, 1), (82, .aload_n 0, 1), (83, .getfield 112, 3), (86, .invokevirtual 115, 3), (89, .istore_n 1, 1), (90, .iload_n 1, 1), (91, .invokestatic 122, 3), (94, .ifCond .eq 10, 3), (97, .aload_n 0, 1), (98, .invokevirtual 125, 3), (101, .goto 32, 3), (104, .iload_n 1, 1), (105, .invokestatic 128, 3), (108, .ifCond .eq 10, 3), (111, .aload_n 0, 1), (112, .invokevirtual 131, 3), (115, .goto 18, 3), (118, .aload_n 0, 1), (119, .iload_n 1, 1)] : List (Nat × Instr × Nat)), decode cX5_step t.1 = .ok (t.2.1, t.2.2) := by decide +kernel
theorem DX5_step_1 : ∀ t ∈ ([(120, .bipush 59, 2), (122, .if_icmp .ne 7, 3), (125, .iconst 1, 1), (126, .goto 4, 3), (129, .iconst 3, 1), (130, .putfield 53, 3), (133, .return_, 1)] : List (Nat × Instr × Nat)), decode cX5_step t.1 = .ok (t.2.1, t.2.2) := by decide +kernel
noncomputable def f_X5_step_8 (s_mk : OS) : OS → Option ((OS) ⊕ (OS)) := fun s_t => (if (s_t.1 3) ≤ (s_t.1 6) then some (.inr s_t) else (f_X5_byteAt s_t s_mk (s_t.1 6)).bind (fun x4 => (f_X5_isBlank x4).bind (fun x7 => (if x7 = 0 then some (.inr s_t) else bnd (oI s_t 6 ((s_t.1 6) + 1)) (fun t11 => some (.inl t11))))))
noncomputable def f_X5_step (st : OS) (st_mk : OS) : Option (OS) := bnd (oI st 6 (st.1 7)) (fun t1 => (lpv (f_X5_step_8 st_mk) t1).bind (fun x13 => bnd (oI x13 7 (x13.1 6)) (fun t16 => (if (t16.1 6) < (t16.1 3) then bnd (oI t16 7 ((t16.1 7) + 1)) (fun t19 => (f_X5_byteAt t19 st_mk (t19.1 6)).bind (fun x21 => (f_X5_isDigit x21).bind (fun x24 => (if x24 = 0 then (f_X5_isLetter x21).bind (fun x28 => (if x28 = 0 then (if x21 = 59 then bnd (oI t19 4 1) (fun t35 => some t35) else bnd (oI t19 4 3) (fun t33 => some t33)) else (f_X5_stepWord t19 st_mk).bind (fun x37 => some x37))) else (f_X5_stepNumber t19 st_mk).bind (fun x40 => some x40))))) else bnd (oI t16 4 0) (fun t43 => some t43)))))
set_option maxHeartbeats 4000000 in
set_option maxRecDepth 100000 in
theorem w_X5_step_8 {p : Program} {l : Launch} {e : Env} {s : State} {m : MethodId} {args : Array Value} {below : List Frame} {meth : Method} {c : Code} {Q : State → Prop} {G : mG} {h : mM} {q : Nat → Nat} {q_mk : Nat → Nat} (hq : oinj LX5 q) (hq_mk : oinj LX3 q_mk) (ha : oap [(LX5, q), (LX3, q_mk)]) (lk_mk : q 0 = q_mk 3) (X : mX G p m c cX5_step 2 s args RX5) (s_mk : OS) : ∀ (z : OS) (r : OS), lpv (f_X5_step_8 s_mk) z = some r → ∀ (H : Heap) (locs : List Loc) (ls : Array Slot), mH G (oset LX5 G q z (oset LX3 G q_mk s_mk h)) s.heap H locs → lv_has ls 2 [(0, .ref (q 10))] → (∀ (H : Heap) (locs : List Loc) (ls : Array Slot), mH G (oset LX5 G q r (oset LX3 G q_mk s_mk h)) s.heap H locs → lv_has ls 2 [(0, .ref (q 10))] → W p l e rm_X5_step s m args below meth c H locs 0 0 Q (F0 m 46 ls [])) → W p l e rm_X5_step s m args below meth c H locs 0 0 Q (F0 m 8 ls []) := by
  refine lpv_rec ?_
  intro z r x hF hx H locs ls hH hl K0
  obtain ⟨s_t, hz⟩ : ∃ y, y = z := ⟨_, rfl⟩
  subst hz
  dsimp only [f_X5_step_8] at hF
  refine lv_aload_n X.x X.b (dk DX5_step_0 4 rfl) rfl (lv_at hl 0 rfl) ?_
  refine og_getI OX5 X hq hH 6 (by decide) rfl kF_X5_112 (dk DX5_step_0 5 rfl) ?_
  refine lv_aload_n X.x X.b (dk DX5_step_0 6 rfl) rfl (lv_at hl 0 rfl) ?_
  refine og_getI OX5 X hq hH 3 (by decide) rfl kF_X5_35 (dk DX5_step_0 7 rfl) ?_
  refine lv_icmp_ge (tgt := 46) X.x X.b (dk DX5_step_0 8 rfl) (by decide) (fun c3 => ?_) (fun c3 => ?_)
  · replace hF := if_t hF c3
    have hr9 := lp_r hF hx
    subst hr9
    exact K0 _ _ _ hH (lv_sub hl [0] rfl)
  · replace hF := if_f hF c3
    refine lv_aload_n X.x X.b (dk DX5_step_0 9 rfl) rfl (lv_at hl 0 rfl) ?_
    refine lv_aload_n X.x X.b (dk DX5_step_0 10 rfl) rfl (lv_at hl 0 rfl) ?_
    refine og_getI OX5 X hq hH 6 (by decide) rfl kF_X5_112 (dk DX5_step_0 11 rfl) ?_
    obtain ⟨x4, e5, hF⟩ := bd hF
    refine mr_ci0 hH ⟨rfl, rfl⟩ (mr_runV (As := [.int (s_t.1 6)]) (rest := []) X hH (c_X5_byteAt hq hq_mk ha lk_mk e5) ((oset_at hq (Nat.le_refl _) ohas_N).trans (congrArg some ocell_N)) OX5.1 kM_X5_115 kI_X5_byteAt kS_X5_byteAt kN_X5 kC_X5_byteAt hd_X5_byteAt ⟨Nat.le_of_ble_eq_true rfl, Nat.le_of_ble_eq_true rfl⟩ rfl hl.1 (Nat.le_of_ble_eq_true rfl) (dk DX5_step_0 12 rfl) ⟨Nat.zero_le _, Nat.zero_le _⟩) (fun r h1 H locs hp hH => ?_)
    obtain ⟨hr1, hr2⟩ := hp; rw [hr1]; rw [hr2] at hH; clear hr1 hr2
    obtain ⟨x7, e8, hF⟩ := bd hF
    refine mr_ci0 hH ⟨rfl, rfl⟩ (mr_runS (As := [.int x4]) (rest := []) X hH (c_X5_isBlank e8) kM_X5_119 kT_X5_isBlank kN_X5 kC_X5_isBlank hd_X5_isBlank ⟨Nat.le_of_ble_eq_true rfl, Nat.le_of_ble_eq_true rfl⟩ rfl hl.1 (Nat.le_of_ble_eq_true rfl) (dk DX5_step_0 13 rfl) ⟨Nat.zero_le _, Nat.zero_le _⟩) (fun r h1 H locs hp hH => ?_)
    obtain ⟨hr1, hr2⟩ := hp; rw [hr1]; rw [hr2] at hH; clear hr1 hr2
    refine lv_if_eq (tgt := 46) X.x X.b (dk DX5_step_0 14 rfl) (by decide) (fun c10 => ?_) (fun c10 => ?_)
    · replace hF := if_t hF c10
      have hr9 := lp_r hF hx
      subst hr9
      exact K0 _ _ _ hH (lv_sub hl [0] rfl)
    · replace hF := if_f hF c10
      refine lv_aload_n X.x X.b (dk DX5_step_0 15 rfl) rfl (lv_at hl 0 rfl) ?_
      refine lv_dup X.x X.b (dk DX5_step_0 16 rfl) rfl ?_
      refine og_getI OX5 X hq hH 6 (by decide) rfl kF_X5_112 (dk DX5_step_0 17 rfl) ?_
      refine lv_iconst (v := 1) X.x X.b (dk DX5_step_0 18 rfl) (by decide) ?_
      refine lv_iadd X.x X.b (dk DX5_step_0 19 rfl) ?_
      refine og_putI OX5 X hq hH 6 (by decide) rfl kF_X5_112 rfl rfl rfl (dk DX5_step_0 20 rfl) (fun H locs hH => ?_)
      obtain ⟨t11, e12⟩ : ∃ y, y = oI s_t 6 ((s_t.1 6) + 1) := ⟨_, rfl⟩
      rw [← e12] at hH
      replace hF := bnd_e hF e12
      refine lv_goto (tgt := 8) X.x X.b (dk DX5_step_0 21 rfl) (by decide) ?_
      exact (lp_l hF hx) _ _ _ hH (lv_sub hl [0] rfl) K0
set_option maxHeartbeats 4000000 in
set_option maxRecDepth 100000 in
theorem c_X5_step {l : Launch} {G : mG} {h : mM} {q : Nat → Nat} {q_mk : Nat → Nat} (hq : oinj LX5 q) (hq_mk : oinj LX3 q_mk) (ha : oap [(LX5, q), (LX3, q_mk)]) (lk_mk : q 0 = q_mk 3) {st : OS} {st_mk : OS} {x : OS} (hF : f_X5_step st st_mk = some x) : cQ l G yX5_step cX5_step 2 none rm_X5_step [.ref (q 10)] (oset LX5 G q st (oset LX3 G q_mk st_mk h)) (mQv G (fun h1 => h1 = oset LX5 G q x (oset LX3 G q_mk st_mk h))) := by
  refine mp_of (by decide +kernel) (Nat.le_of_ble_eq_true rfl) ?_
  intro p e s m below meth c X hr hlk hH hname ls hl
  dsimp only [f_X5_step] at hF
  replace hl : lv_has ls 2 [(0, .ref (q 10))] := hl
  refine lv_aload_n X.x X.b (dk DX5_step_0 0 rfl) rfl (lv_at hl 0 rfl) ?_
  refine lv_aload_n X.x X.b (dk DX5_step_0 1 rfl) rfl (lv_at hl 0 rfl) ?_
  refine og_getI OX5 X hq hH 7 (by decide) rfl kF_X5_38 (dk DX5_step_0 2 rfl) ?_
  refine og_putI OX5 X hq hH 6 (by decide) rfl kF_X5_112 rfl rfl rfl (dk DX5_step_0 3 rfl) (fun H locs hH => ?_)
  obtain ⟨t1, e2⟩ : ∃ y, y = oI st 6 (st.1 7) := ⟨_, rfl⟩
  rw [← e2] at hH
  replace hF := bnd_e hF e2
  obtain ⟨x13, e14, hF⟩ := bd hF
  replace hl : lv_has ls 2 [(0, .ref (q 10))] := lv_sub hl [0] rfl
  refine w_X5_step_8 hq hq_mk ha lk_mk X st_mk _ _ e14 _ _ _ hH hl (fun H locs ls hH hl => ?_)
  refine lv_aload_n X.x X.b (dk DX5_step_0 22 rfl) rfl (lv_at hl 0 rfl) ?_
  refine lv_aload_n X.x X.b (dk DX5_step_0 23 rfl) rfl (lv_at hl 0 rfl) ?_
  refine og_getI OX5 X hq hH 6 (by decide) rfl kF_X5_112 (dk DX5_step_0 24 rfl) ?_
  refine og_putI OX5 X hq hH 7 (by decide) rfl kF_X5_38 rfl rfl rfl (dk DX5_step_0 25 rfl) (fun H locs hH => ?_)
  obtain ⟨t16, e17⟩ : ∃ y, y = oI x13 7 (x13.1 6) := ⟨_, rfl⟩
  rw [← e17] at hH
  replace hF := bnd_e hF e17
  refine lv_aload_n X.x X.b (dk DX5_step_0 26 rfl) rfl (lv_at hl 0 rfl) ?_
  refine og_getI OX5 X hq hH 6 (by decide) rfl kF_X5_112 (dk DX5_step_0 27 rfl) ?_
  refine lv_aload_n X.x X.b (dk DX5_step_0 28 rfl) rfl (lv_at hl 0 rfl) ?_
  refine og_getI OX5 X hq hH 3 (by decide) rfl kF_X5_35 (dk DX5_step_0 29 rfl) ?_
  refine lv_icmp_lt (tgt := 71) X.x X.b (dk DX5_step_0 30 rfl) (by decide) (fun c18 => ?_) (fun c18 => ?_)
  · replace hF := if_t hF c18
    refine lv_aload_n X.x X.b (dk DX5_step_0 35 rfl) rfl (lv_at hl 0 rfl) ?_
    refine lv_dup X.x X.b (dk DX5_step_0 36 rfl) rfl ?_
    refine og_getI OX5 X hq hH 7 (by decide) rfl kF_X5_38 (dk DX5_step_0 37 rfl) ?_
    refine lv_iconst (v := 1) X.x X.b (dk DX5_step_0 38 rfl) (by decide) ?_
    refine lv_iadd X.x X.b (dk DX5_step_0 39 rfl) ?_
    refine og_putI OX5 X hq hH 7 (by decide) rfl kF_X5_38 rfl rfl rfl (dk DX5_step_0 40 rfl) (fun H locs hH => ?_)
    obtain ⟨t19, e20⟩ : ∃ y, y = oI t16 7 ((t16.1 7) + 1) := ⟨_, rfl⟩
    rw [← e20] at hH
    replace hF := bnd_e hF e20
    refine lv_aload_n X.x X.b (dk DX5_step_0 41 rfl) rfl (lv_at hl 0 rfl) ?_
    refine lv_aload_n X.x X.b (dk DX5_step_0 42 rfl) rfl (lv_at hl 0 rfl) ?_
    refine og_getI OX5 X hq hH 6 (by decide) rfl kF_X5_112 (dk DX5_step_0 43 rfl) ?_
    obtain ⟨x21, e22, hF⟩ := bd hF
    refine mr_ci0 hH ⟨rfl, rfl⟩ (mr_runV (As := [.int (t19.1 6)]) (rest := []) X hH (c_X5_byteAt hq hq_mk ha lk_mk e22) ((oset_at hq (Nat.le_refl _) ohas_N).trans (congrArg some ocell_N)) OX5.1 kM_X5_115 kI_X5_byteAt kS_X5_byteAt kN_X5 kC_X5_byteAt hd_X5_byteAt ⟨Nat.le_of_ble_eq_true rfl, Nat.le_of_ble_eq_true rfl⟩ rfl hl.1 (Nat.le_of_ble_eq_true rfl) (dk DX5_step_0 44 rfl) ⟨Nat.zero_le _, Nat.zero_le _⟩) (fun r h1 H locs hp hH => ?_)
    obtain ⟨hr1, hr2⟩ := hp; rw [hr1]; rw [hr2] at hH; clear hr1 hr2
    refine lv_istore_n (lv' := [(1, .int x21), (0, .ref (q 10))]) X.x X.b (dk DX5_step_0 45 rfl) rfl hl (by decide) rfl (fun ls hl => ?_)
    replace hl : lv_has ls 2 [(0, .ref (q 10)), (1, .int x21)] := lv_sub hl [1, 0] rfl
    refine lv_iload_n X.x X.b (dk DX5_step_0 46 rfl) rfl (lv_at hl 1 rfl) ?_
    obtain ⟨x24, e25, hF⟩ := bd hF
    refine mr_ci0 hH ⟨rfl, rfl⟩ (mr_runS (As := [.int x21]) (rest := []) X hH (c_X5_isDigit e25) kM_X5_122 kT_X5_isDigit kN_X5 kC_X5_isDigit hd_X5_isDigit ⟨Nat.le_of_ble_eq_true rfl, Nat.le_of_ble_eq_true rfl⟩ rfl hl.1 (Nat.le_of_ble_eq_true rfl) (dk DX5_step_0 47 rfl) ⟨Nat.zero_le _, Nat.zero_le _⟩) (fun r h1 H locs hp hH => ?_)
    obtain ⟨hr1, hr2⟩ := hp; rw [hr1]; rw [hr2] at hH; clear hr1 hr2
    refine lv_if_eq (tgt := 104) X.x X.b (dk DX5_step_0 48 rfl) (by decide) (fun c27 => ?_) (fun c27 => ?_)
    · replace hF := if_t hF c27
      refine lv_iload_n X.x X.b (dk DX5_step_0 52 rfl) rfl (lv_at hl 1 rfl) ?_
      obtain ⟨x28, e29, hF⟩ := bd hF
      refine mr_ci0 hH ⟨rfl, rfl⟩ (mr_runS (As := [.int x21]) (rest := []) X hH (c_X5_isLetter e29) kM_X5_128 kT_X5_isLetter kN_X5 kC_X5_isLetter hd_X5_isLetter ⟨Nat.le_of_ble_eq_true rfl, Nat.le_of_ble_eq_true rfl⟩ rfl hl.1 (Nat.le_of_ble_eq_true rfl) (dk DX5_step_0 53 rfl) ⟨Nat.zero_le _, Nat.zero_le _⟩) (fun r h1 H locs hp hH => ?_)
      obtain ⟨hr1, hr2⟩ := hp; rw [hr1]; rw [hr2] at hH; clear hr1 hr2
      refine lv_if_eq (tgt := 118) X.x X.b (dk DX5_step_0 54 rfl) (by decide) (fun c31 => ?_) (fun c31 => ?_)
      · replace hF := if_t hF c31
        refine lv_aload_n X.x X.b (dk DX5_step_0 58 rfl) rfl (lv_at hl 0 rfl) ?_
        refine lv_iload_n X.x X.b (dk DX5_step_0 59 rfl) rfl (lv_at hl 1 rfl) ?_
        refine lv_bipush (v := 59) X.x X.b (dk DX5_step_1 0 rfl) (by decide) ?_
        refine lv_icmp_ne (tgt := 129) X.x X.b (dk DX5_step_1 1 rfl) (by decide) (fun c32 => ?_) (fun c32 => ?_)
        · replace hF := if_f hF c32
          refine lv_iconst (v := 3) X.x X.b (dk DX5_step_1 4 rfl) (by decide) ?_
          refine og_putI OX5 X hq hH 4 (by decide) rfl kF_X5_53 rfl rfl rfl (dk DX5_step_1 5 rfl) (fun H locs hH => ?_)
          obtain ⟨t33, e34⟩ : ∃ y, y = oI t19 4 3 := ⟨_, rfl⟩
          rw [← e34] at hH
          replace hF := bnd_e hF e34
          cases sm hF
          exact mr_vret X hr hlk hH rfl (dk DX5_step_1 6 rfl)
        · replace hF := if_t hF c32
          refine lv_iconst (v := 1) X.x X.b (dk DX5_step_1 2 rfl) (by decide) ?_
          refine lv_goto (tgt := 130) X.x X.b (dk DX5_step_1 3 rfl) (by decide) ?_
          refine og_putI OX5 X hq hH 4 (by decide) rfl kF_X5_53 rfl rfl rfl (dk DX5_step_1 5 rfl) (fun H locs hH => ?_)
          obtain ⟨t35, e36⟩ : ∃ y, y = oI t19 4 1 := ⟨_, rfl⟩
          rw [← e36] at hH
          replace hF := bnd_e hF e36
          cases sm hF
          exact mr_vret X hr hlk hH rfl (dk DX5_step_1 6 rfl)
      · replace hF := if_f hF c31
        refine lv_aload_n X.x X.b (dk DX5_step_0 55 rfl) rfl (lv_at hl 0 rfl) ?_
        obtain ⟨x37, e38, hF⟩ := bd hF
        refine mr_cv0 hH ⟨rfl, rfl⟩ (mr_runV (As := []) (rest := []) X hH (c_X5_stepWord hq hq_mk ha lk_mk e38) ((oset_at hq (Nat.le_refl _) ohas_N).trans (congrArg some ocell_N)) OX5.1 kM_X5_131 kI_X5_stepWord kS_X5_stepWord kN_X5 kC_X5_stepWord hd_X5_stepWord ⟨Nat.le_of_ble_eq_true rfl, Nat.le_of_ble_eq_true rfl⟩ rfl hl.1 (Nat.le_of_ble_eq_true rfl) (dk DX5_step_0 56 rfl) ⟨Nat.zero_le _, Nat.zero_le _⟩) (fun h1 H locs hp hH => ?_)
        rw [hp] at hH; clear hp
        refine lv_goto (tgt := 133) X.x X.b (dk DX5_step_0 57 rfl) (by decide) ?_
        cases sm hF
        exact mr_vret X hr hlk hH rfl (dk DX5_step_1 6 rfl)
    · replace hF := if_f hF c27
      refine lv_aload_n X.x X.b (dk DX5_step_0 49 rfl) rfl (lv_at hl 0 rfl) ?_
      obtain ⟨x40, e41, hF⟩ := bd hF
      refine mr_cv0 hH ⟨rfl, rfl⟩ (mr_runV (As := []) (rest := []) X hH (c_X5_stepNumber hq hq_mk ha lk_mk e41) ((oset_at hq (Nat.le_refl _) ohas_N).trans (congrArg some ocell_N)) OX5.1 kM_X5_125 kI_X5_stepNumber kS_X5_stepNumber kN_X5 kC_X5_stepNumber hd_X5_stepNumber ⟨Nat.le_of_ble_eq_true rfl, Nat.le_of_ble_eq_true rfl⟩ rfl hl.1 (Nat.le_of_ble_eq_true rfl) (dk DX5_step_0 50 rfl) ⟨Nat.zero_le _, Nat.zero_le _⟩) (fun h1 H locs hp hH => ?_)
      rw [hp] at hH; clear hp
      refine lv_goto (tgt := 133) X.x X.b (dk DX5_step_0 51 rfl) (by decide) ?_
      cases sm hF
      exact mr_vret X hr hlk hH rfl (dk DX5_step_1 6 rfl)
  · replace hF := if_f hF c18
    refine lv_aload_n X.x X.b (dk DX5_step_0 31 rfl) rfl (lv_at hl 0 rfl) ?_
    refine lv_iconst (v := 0) X.x X.b (dk DX5_step_0 32 rfl) (by decide) ?_
    refine og_putI OX5 X hq hH 4 (by decide) rfl kF_X5_53 rfl rfl rfl (dk DX5_step_0 33 rfl) (fun H locs hH => ?_)
    obtain ⟨t43, e44⟩ : ∃ y, y = oI t16 4 0 := ⟨_, rfl⟩
    rw [← e44] at hH
    replace hF := bnd_e hF e44
    cases sm hF
    exact mr_vret X hr hlk hH rfl (dk DX5_step_0 34 rfl)
-- X5_refuse
abbrev rm_X5_refuse : Room := { frames := 0, cells := 0, slots := 0, locals := 0 }
theorem hd_X5_refuse : mHd yX5_refuse 1 := ⟨by decide +kernel, by decide +kernel, by decide +kernel⟩
theorem DX5_refuse_0 : ∀ t ∈ ([(0, .aload_n 0, 1), (1, .aload_n 0, 1), (2, .getfield 53, 3), (5, .iconst 3, 1), (6, .if_icmp .ne 7, 3), (9, .iconst 1, 1), (10, .goto 4, 3), (13, .iload_n 1, 1), (14, .putfield 41, 3), (17, .aload_n 0, 1), (18, .aload_n 0, 1), (19, .getfield 112, 3), (22, .putfield 22, 3), (25, .return_, 1)] : List (Nat × Instr × Nat)), decode cX5_refuse t.1 = .ok (t.2.1, t.2.2) := by decide +kernel
noncomputable def f_X5_refuse (st : OS) (st_mk : OS) (a0 : Int32) : Option (OS) := (if (st.1 4) = 3 then bnd (oI st 8 1) (fun t6 => bnd (oI t6 9 (t6.1 6)) (fun t8 => some t8)) else bnd (oI st 8 a0) (fun t2 => bnd (oI t2 9 (t2.1 6)) (fun t4 => some t4)))
set_option maxHeartbeats 4000000 in
set_option maxRecDepth 100000 in
theorem c_X5_refuse {l : Launch} {G : mG} {h : mM} {q : Nat → Nat} {q_mk : Nat → Nat} (hq : oinj LX5 q) (hq_mk : oinj LX3 q_mk) (ha : oap [(LX5, q), (LX3, q_mk)]) (lk_mk : q 0 = q_mk 3) {st : OS} {st_mk : OS} {a0 : Int32} {x : OS} (hF : f_X5_refuse st st_mk a0 = some x) : cQ l G yX5_refuse cX5_refuse 2 none rm_X5_refuse [.ref (q 10), .int a0] (oset LX5 G q st (oset LX3 G q_mk st_mk h)) (mQv G (fun h1 => h1 = oset LX5 G q x (oset LX3 G q_mk st_mk h))) := by
  refine mp_of (by decide +kernel) (Nat.le_of_ble_eq_true rfl) ?_
  intro p e s m below meth c X hr hlk hH hname ls hl
  dsimp only [f_X5_refuse] at hF
  replace hl : lv_has ls 2 [(0, .ref (q 10)), (1, .int a0)] := hl
  refine lv_aload_n X.x X.b (dk DX5_refuse_0 0 rfl) rfl (lv_at hl 0 rfl) ?_
  refine lv_aload_n X.x X.b (dk DX5_refuse_0 1 rfl) rfl (lv_at hl 0 rfl) ?_
  refine og_getI OX5 X hq hH 4 (by decide) rfl kF_X5_53 (dk DX5_refuse_0 2 rfl) ?_
  refine lv_iconst (v := 3) X.x X.b (dk DX5_refuse_0 3 rfl) (by decide) ?_
  refine lv_icmp_ne (tgt := 13) X.x X.b (dk DX5_refuse_0 4 rfl) (by decide) (fun c1 => ?_) (fun c1 => ?_)
  · replace hF := if_f hF c1
    refine lv_iload_n X.x X.b (dk DX5_refuse_0 7 rfl) rfl (lv_at hl 1 rfl) ?_
    refine og_putI OX5 X hq hH 8 (by decide) rfl kF_X5_41 rfl rfl rfl (dk DX5_refuse_0 8 rfl) (fun H locs hH => ?_)
    obtain ⟨t2, e3⟩ : ∃ y, y = oI st 8 a0 := ⟨_, rfl⟩
    rw [← e3] at hH
    replace hF := bnd_e hF e3
    refine lv_aload_n X.x X.b (dk DX5_refuse_0 9 rfl) rfl (lv_at hl 0 rfl) ?_
    refine lv_aload_n X.x X.b (dk DX5_refuse_0 10 rfl) rfl (lv_at hl 0 rfl) ?_
    refine og_getI OX5 X hq hH 6 (by decide) rfl kF_X5_112 (dk DX5_refuse_0 11 rfl) ?_
    refine og_putI OX5 X hq hH 9 (by decide) rfl kF_X5_22 rfl rfl rfl (dk DX5_refuse_0 12 rfl) (fun H locs hH => ?_)
    obtain ⟨t4, e5⟩ : ∃ y, y = oI t2 9 (t2.1 6) := ⟨_, rfl⟩
    rw [← e5] at hH
    replace hF := bnd_e hF e5
    cases sm hF
    exact mr_vret X hr hlk hH rfl (dk DX5_refuse_0 13 rfl)
  · replace hF := if_t hF c1
    refine lv_iconst (v := 1) X.x X.b (dk DX5_refuse_0 5 rfl) (by decide) ?_
    refine lv_goto (tgt := 14) X.x X.b (dk DX5_refuse_0 6 rfl) (by decide) ?_
    refine og_putI OX5 X hq hH 8 (by decide) rfl kF_X5_41 rfl rfl rfl (dk DX5_refuse_0 8 rfl) (fun H locs hH => ?_)
    obtain ⟨t6, e7⟩ : ∃ y, y = oI st 8 1 := ⟨_, rfl⟩
    rw [← e7] at hH
    replace hF := bnd_e hF e7
    refine lv_aload_n X.x X.b (dk DX5_refuse_0 9 rfl) rfl (lv_at hl 0 rfl) ?_
    refine lv_aload_n X.x X.b (dk DX5_refuse_0 10 rfl) rfl (lv_at hl 0 rfl) ?_
    refine og_getI OX5 X hq hH 6 (by decide) rfl kF_X5_112 (dk DX5_refuse_0 11 rfl) ?_
    refine og_putI OX5 X hq hH 9 (by decide) rfl kF_X5_22 rfl rfl rfl (dk DX5_refuse_0 12 rfl) (fun H locs hH => ?_)
    obtain ⟨t8, e9⟩ : ∃ y, y = oI t6 9 (t6.1 6) := ⟨_, rfl⟩
    rw [← e9] at hH
    replace hF := bnd_e hF e9
    cases sm hF
    exact mr_vret X hr hlk hH rfl (dk DX5_refuse_0 13 rfl)
-- X5_readNumber
abbrev rm_X5_readNumber : Room := { frames := 7, cells := 0, slots := 0, locals := 148 }
theorem hd_X5_readNumber : mHd yX5_readNumber 2 := ⟨by decide +kernel, by decide +kernel, by decide +kernel⟩
theorem DX5_readNumber_0 : ∀ t ∈ ([(0, .aload_n 0, 1), (1, .invokevirtual 50, 3), (4, .aload_n 0, 1), (5, .getfield 53, 3), (8, .iconst 2, 1), (9, .if_icmp .eq 11, 3), (12, .aload_n 0, 1), (13, .iconst 2, 1), (14, .invokevirtual 82, 3), (17, .goto 24, 3), (20, .aload_n 0, 1), (21, .getfield 88, 3), (24, .iload_n 1, 1), (25, .if_icmp .lt 11, 3), (28, .aload_n 0, 1), (29, .getfield 88, 3), (32, .iload_n 2, 1), (33, .if_icmp .le 8, 3), (36, .aload_n 0, 1), (37, .iconst 3, 1), (38, .invokevirtual 82, 3), (41, .aload_n 0, 1), (42, .getfield 41, 3), (45, .ifCond .ne 10, 3), (48, .aload_n 0, 1), (49, .getfield 88, 3), (52, .goto 4, 3), (55, .iconst 0, 1), (56, .ireturn, 1)] : List (Nat × Instr × Nat)), decode cX5_readNumber t.1 = .ok (t.2.1, t.2.2) := by decide +kernel
noncomputable def f_X5_readNumber (st : OS) (st_mk : OS) (a0 : Int32) (a1 : Int32) : Option (Int32 × OS) := (f_X5_step st st_mk).bind (fun x1 => (if (x1.1 4) = 2 then (if (x1.1 5) < a0 then (f_X5_refuse x1 st_mk 3).bind (fun x6 => (if (x6.1 8) = 0 then some ((x6.1 5, x6)) else some ((0, x6)))) else (if (x1.1 5) ≤ a1 then (if (x1.1 8) = 0 then some ((x1.1 5, x1)) else some ((0, x1))) else (f_X5_refuse x1 st_mk 3).bind (fun x12 => (if (x12.1 8) = 0 then some ((x12.1 5, x12)) else some ((0, x12)))))) else (f_X5_refuse x1 st_mk 2).bind (fun x16 => (if (x16.1 8) = 0 then some ((x16.1 5, x16)) else some ((0, x16))))))
set_option maxHeartbeats 4000000 in
set_option maxRecDepth 100000 in
theorem c_X5_readNumber {l : Launch} {G : mG} {h : mM} {q : Nat → Nat} {q_mk : Nat → Nat} (hq : oinj LX5 q) (hq_mk : oinj LX3 q_mk) (ha : oap [(LX5, q), (LX3, q_mk)]) (lk_mk : q 0 = q_mk 3) {st : OS} {st_mk : OS} {a0 : Int32} {a1 : Int32} {x : Int32 × OS} (hF : f_X5_readNumber st st_mk a0 a1 = some x) : cQ l G yX5_readNumber cX5_readNumber 3 (some FieldType.int) rm_X5_readNumber [.ref (q 10), .int a0, .int a1] (oset LX5 G q st (oset LX3 G q_mk st_mk h)) (mQi G (fun r h1 => r = x.1 ∧ h1 = oset LX5 G q x.2 (oset LX3 G q_mk st_mk h))) := by
  refine mp_of (by decide +kernel) (Nat.le_of_ble_eq_true rfl) ?_
  intro p e s m below meth c X hr hlk hH hname ls hl
  dsimp only [f_X5_readNumber] at hF
  replace hl : lv_has ls 3 [(0, .ref (q 10)), (1, .int a0), (2, .int a1)] := hl
  refine lv_aload_n X.x X.b (dk DX5_readNumber_0 0 rfl) rfl (lv_at hl 0 rfl) ?_
  obtain ⟨x1, e2, hF⟩ := bd hF
  refine mr_cv0 hH ⟨rfl, rfl⟩ (mr_runV (As := []) (rest := []) X hH (c_X5_step hq hq_mk ha lk_mk e2) ((oset_at hq (Nat.le_refl _) ohas_N).trans (congrArg some ocell_N)) OX5.1 kM_X5_50 kI_X5_step kS_X5_step kN_X5 kC_X5_step hd_X5_step ⟨Nat.le_of_ble_eq_true rfl, Nat.le_of_ble_eq_true rfl⟩ rfl hl.1 (Nat.le_of_ble_eq_true rfl) (dk DX5_readNumber_0 1 rfl) ⟨Nat.zero_le _, Nat.zero_le _⟩) (fun h1 H locs hp hH => ?_)
  rw [hp] at hH; clear hp
  refine lv_aload_n X.x X.b (dk DX5_readNumber_0 2 rfl) rfl (lv_at hl 0 rfl) ?_
  refine og_getI OX5 X hq hH 4 (by decide) rfl kF_X5_53 (dk DX5_readNumber_0 3 rfl) ?_
  refine lv_iconst (v := 2) X.x X.b (dk DX5_readNumber_0 4 rfl) (by decide) ?_
  refine lv_icmp_eq (tgt := 20) X.x X.b (dk DX5_readNumber_0 5 rfl) (by decide) (fun c4 => ?_) (fun c4 => ?_)
  · replace hF := if_t hF c4
    refine lv_aload_n X.x X.b (dk DX5_readNumber_0 10 rfl) rfl (lv_at hl 0 rfl) ?_
    refine og_getI OX5 X hq hH 5 (by decide) rfl kF_X5_88 (dk DX5_readNumber_0 11 rfl) ?_
    refine lv_iload_n X.x X.b (dk DX5_readNumber_0 12 rfl) rfl (lv_at hl 1 rfl) ?_
    refine lv_icmp_lt (tgt := 36) X.x X.b (dk DX5_readNumber_0 13 rfl) (by decide) (fun c5 => ?_) (fun c5 => ?_)
    · replace hF := if_t hF c5
      refine lv_aload_n X.x X.b (dk DX5_readNumber_0 18 rfl) rfl (lv_at hl 0 rfl) ?_
      refine lv_iconst (v := 3) X.x X.b (dk DX5_readNumber_0 19 rfl) (by decide) ?_
      obtain ⟨x6, e7, hF⟩ := bd hF
      refine mr_cv0 hH ⟨rfl, rfl⟩ (mr_runV (As := [.int 3]) (rest := []) X hH (c_X5_refuse hq hq_mk ha lk_mk e7) ((oset_at hq (Nat.le_refl _) ohas_N).trans (congrArg some ocell_N)) OX5.1 kM_X5_82 kI_X5_refuse kS_X5_refuse kN_X5 kC_X5_refuse hd_X5_refuse ⟨Nat.le_of_ble_eq_true rfl, Nat.le_of_ble_eq_true rfl⟩ rfl hl.1 (Nat.le_of_ble_eq_true rfl) (dk DX5_readNumber_0 20 rfl) ⟨Nat.zero_le _, Nat.zero_le _⟩) (fun h1 H locs hp hH => ?_)
      rw [hp] at hH; clear hp
      refine lv_aload_n X.x X.b (dk DX5_readNumber_0 21 rfl) rfl (lv_at hl 0 rfl) ?_
      refine og_getI OX5 X hq hH 8 (by decide) rfl kF_X5_41 (dk DX5_readNumber_0 22 rfl) ?_
      refine lv_if_ne (tgt := 55) X.x X.b (dk DX5_readNumber_0 23 rfl) (by decide) (fun c9 => ?_) (fun c9 => ?_)
      · replace hF := if_f hF c9
        refine lv_iconst (v := 0) X.x X.b (dk DX5_readNumber_0 27 rfl) (by decide) ?_
        cases sm hF
        exact mr_iret X hr hlk hH ⟨rfl, rfl⟩ (dk DX5_readNumber_0 28 rfl)
      · replace hF := if_t hF c9
        refine lv_aload_n X.x X.b (dk DX5_readNumber_0 24 rfl) rfl (lv_at hl 0 rfl) ?_
        refine og_getI OX5 X hq hH 5 (by decide) rfl kF_X5_88 (dk DX5_readNumber_0 25 rfl) ?_
        refine lv_goto (tgt := 56) X.x X.b (dk DX5_readNumber_0 26 rfl) (by decide) ?_
        cases sm hF
        exact mr_iret X hr hlk hH ⟨rfl, rfl⟩ (dk DX5_readNumber_0 28 rfl)
    · replace hF := if_f hF c5
      refine lv_aload_n X.x X.b (dk DX5_readNumber_0 14 rfl) rfl (lv_at hl 0 rfl) ?_
      refine og_getI OX5 X hq hH 5 (by decide) rfl kF_X5_88 (dk DX5_readNumber_0 15 rfl) ?_
      refine lv_iload_n X.x X.b (dk DX5_readNumber_0 16 rfl) rfl (lv_at hl 2 rfl) ?_
      refine lv_icmp_le (tgt := 41) X.x X.b (dk DX5_readNumber_0 17 rfl) (by decide) (fun c10 => ?_) (fun c10 => ?_)
      · replace hF := if_t hF c10
        refine lv_aload_n X.x X.b (dk DX5_readNumber_0 21 rfl) rfl (lv_at hl 0 rfl) ?_
        refine og_getI OX5 X hq hH 8 (by decide) rfl kF_X5_41 (dk DX5_readNumber_0 22 rfl) ?_
        refine lv_if_ne (tgt := 55) X.x X.b (dk DX5_readNumber_0 23 rfl) (by decide) (fun c11 => ?_) (fun c11 => ?_)
        · replace hF := if_f hF c11
          refine lv_iconst (v := 0) X.x X.b (dk DX5_readNumber_0 27 rfl) (by decide) ?_
          cases sm hF
          exact mr_iret X hr hlk hH ⟨rfl, rfl⟩ (dk DX5_readNumber_0 28 rfl)
        · replace hF := if_t hF c11
          refine lv_aload_n X.x X.b (dk DX5_readNumber_0 24 rfl) rfl (lv_at hl 0 rfl) ?_
          refine og_getI OX5 X hq hH 5 (by decide) rfl kF_X5_88 (dk DX5_readNumber_0 25 rfl) ?_
          refine lv_goto (tgt := 56) X.x X.b (dk DX5_readNumber_0 26 rfl) (by decide) ?_
          cases sm hF
          exact mr_iret X hr hlk hH ⟨rfl, rfl⟩ (dk DX5_readNumber_0 28 rfl)
      · replace hF := if_f hF c10
        refine lv_aload_n X.x X.b (dk DX5_readNumber_0 18 rfl) rfl (lv_at hl 0 rfl) ?_
        refine lv_iconst (v := 3) X.x X.b (dk DX5_readNumber_0 19 rfl) (by decide) ?_
        obtain ⟨x12, e13, hF⟩ := bd hF
        refine mr_cv0 hH ⟨rfl, rfl⟩ (mr_runV (As := [.int 3]) (rest := []) X hH (c_X5_refuse hq hq_mk ha lk_mk e13) ((oset_at hq (Nat.le_refl _) ohas_N).trans (congrArg some ocell_N)) OX5.1 kM_X5_82 kI_X5_refuse kS_X5_refuse kN_X5 kC_X5_refuse hd_X5_refuse ⟨Nat.le_of_ble_eq_true rfl, Nat.le_of_ble_eq_true rfl⟩ rfl hl.1 (Nat.le_of_ble_eq_true rfl) (dk DX5_readNumber_0 20 rfl) ⟨Nat.zero_le _, Nat.zero_le _⟩) (fun h1 H locs hp hH => ?_)
        rw [hp] at hH; clear hp
        refine lv_aload_n X.x X.b (dk DX5_readNumber_0 21 rfl) rfl (lv_at hl 0 rfl) ?_
        refine og_getI OX5 X hq hH 8 (by decide) rfl kF_X5_41 (dk DX5_readNumber_0 22 rfl) ?_
        refine lv_if_ne (tgt := 55) X.x X.b (dk DX5_readNumber_0 23 rfl) (by decide) (fun c15 => ?_) (fun c15 => ?_)
        · replace hF := if_f hF c15
          refine lv_iconst (v := 0) X.x X.b (dk DX5_readNumber_0 27 rfl) (by decide) ?_
          cases sm hF
          exact mr_iret X hr hlk hH ⟨rfl, rfl⟩ (dk DX5_readNumber_0 28 rfl)
        · replace hF := if_t hF c15
          refine lv_aload_n X.x X.b (dk DX5_readNumber_0 24 rfl) rfl (lv_at hl 0 rfl) ?_
          refine og_getI OX5 X hq hH 5 (by decide) rfl kF_X5_88 (dk DX5_readNumber_0 25 rfl) ?_
          refine lv_goto (tgt := 56) X.x X.b (dk DX5_readNumber_0 26 rfl) (by decide) ?_
          cases sm hF
          exact mr_iret X hr hlk hH ⟨rfl, rfl⟩ (dk DX5_readNumber_0 28 rfl)
  · replace hF := if_f hF c4
    refine lv_aload_n X.x X.b (dk DX5_readNumber_0 6 rfl) rfl (lv_at hl 0 rfl) ?_
    refine lv_iconst (v := 2) X.x X.b (dk DX5_readNumber_0 7 rfl) (by decide) ?_
    obtain ⟨x16, e17, hF⟩ := bd hF
    refine mr_cv0 hH ⟨rfl, rfl⟩ (mr_runV (As := [.int 2]) (rest := []) X hH (c_X5_refuse hq hq_mk ha lk_mk e17) ((oset_at hq (Nat.le_refl _) ohas_N).trans (congrArg some ocell_N)) OX5.1 kM_X5_82 kI_X5_refuse kS_X5_refuse kN_X5 kC_X5_refuse hd_X5_refuse ⟨Nat.le_of_ble_eq_true rfl, Nat.le_of_ble_eq_true rfl⟩ rfl hl.1 (Nat.le_of_ble_eq_true rfl) (dk DX5_readNumber_0 8 rfl) ⟨Nat.zero_le _, Nat.zero_le _⟩) (fun h1 H locs hp hH => ?_)
    rw [hp] at hH; clear hp
    refine lv_goto (tgt := 41) X.x X.b (dk DX5_readNumber_0 9 rfl) (by decide) ?_
    refine lv_aload_n X.x X.b (dk DX5_readNumber_0 21 rfl) rfl (lv_at hl 0 rfl) ?_
    refine og_getI OX5 X hq hH 8 (by decide) rfl kF_X5_41 (dk DX5_readNumber_0 22 rfl) ?_
    refine lv_if_ne (tgt := 55) X.x X.b (dk DX5_readNumber_0 23 rfl) (by decide) (fun c19 => ?_) (fun c19 => ?_)
    · replace hF := if_f hF c19
      refine lv_iconst (v := 0) X.x X.b (dk DX5_readNumber_0 27 rfl) (by decide) ?_
      cases sm hF
      exact mr_iret X hr hlk hH ⟨rfl, rfl⟩ (dk DX5_readNumber_0 28 rfl)
    · replace hF := if_t hF c19
      refine lv_aload_n X.x X.b (dk DX5_readNumber_0 24 rfl) rfl (lv_at hl 0 rfl) ?_
      refine og_getI OX5 X hq hH 5 (by decide) rfl kF_X5_88 (dk DX5_readNumber_0 25 rfl) ?_
      refine lv_goto (tgt := 56) X.x X.b (dk DX5_readNumber_0 26 rfl) (by decide) ?_
      cases sm hF
      exact mr_iret X hr hlk hH ⟨rfl, rfl⟩ (dk DX5_readNumber_0 28 rfl)
-- X5_readStop
abbrev rm_X5_readStop : Room := { frames := 7, cells := 0, slots := 0, locals := 148 }
theorem hd_X5_readStop : mHd yX5_readStop 0 := ⟨by decide +kernel, by decide +kernel, by decide +kernel⟩
theorem DX5_readStop_0 : ∀ t ∈ ([(0, .aload_n 0, 1), (1, .getfield 53, 3), (4, .iconst 1, 1), (5, .if_icmp .ne 10, 3), (8, .aload_n 0, 1), (9, .invokevirtual 50, 3), (12, .goto 8, 3), (15, .aload_n 0, 1), (16, .iconst 2, 1), (17, .invokevirtual 82, 3), (20, .return_, 1)] : List (Nat × Instr × Nat)), decode cX5_readStop t.1 = .ok (t.2.1, t.2.2) := by decide +kernel
noncomputable def f_X5_readStop (st : OS) (st_mk : OS) : Option (OS) := (if (st.1 4) = 1 then (f_X5_step st st_mk).bind (fun x5 => some x5) else (f_X5_refuse st st_mk 2).bind (fun x2 => some x2))
set_option maxHeartbeats 4000000 in
set_option maxRecDepth 100000 in
theorem c_X5_readStop {l : Launch} {G : mG} {h : mM} {q : Nat → Nat} {q_mk : Nat → Nat} (hq : oinj LX5 q) (hq_mk : oinj LX3 q_mk) (ha : oap [(LX5, q), (LX3, q_mk)]) (lk_mk : q 0 = q_mk 3) {st : OS} {st_mk : OS} {x : OS} (hF : f_X5_readStop st st_mk = some x) : cQ l G yX5_readStop cX5_readStop 1 none rm_X5_readStop [.ref (q 10)] (oset LX5 G q st (oset LX3 G q_mk st_mk h)) (mQv G (fun h1 => h1 = oset LX5 G q x (oset LX3 G q_mk st_mk h))) := by
  refine mp_of (by decide +kernel) (Nat.le_of_ble_eq_true rfl) ?_
  intro p e s m below meth c X hr hlk hH hname ls hl
  dsimp only [f_X5_readStop] at hF
  replace hl : lv_has ls 1 [(0, .ref (q 10))] := hl
  refine lv_aload_n X.x X.b (dk DX5_readStop_0 0 rfl) rfl (lv_at hl 0 rfl) ?_
  refine og_getI OX5 X hq hH 4 (by decide) rfl kF_X5_53 (dk DX5_readStop_0 1 rfl) ?_
  refine lv_iconst (v := 1) X.x X.b (dk DX5_readStop_0 2 rfl) (by decide) ?_
  refine lv_icmp_ne (tgt := 15) X.x X.b (dk DX5_readStop_0 3 rfl) (by decide) (fun c1 => ?_) (fun c1 => ?_)
  · replace hF := if_f hF c1
    refine lv_aload_n X.x X.b (dk DX5_readStop_0 7 rfl) rfl (lv_at hl 0 rfl) ?_
    refine lv_iconst (v := 2) X.x X.b (dk DX5_readStop_0 8 rfl) (by decide) ?_
    obtain ⟨x2, e3, hF⟩ := bd hF
    refine mr_cv0 hH ⟨rfl, rfl⟩ (mr_runV (As := [.int 2]) (rest := []) X hH (c_X5_refuse hq hq_mk ha lk_mk e3) ((oset_at hq (Nat.le_refl _) ohas_N).trans (congrArg some ocell_N)) OX5.1 kM_X5_82 kI_X5_refuse kS_X5_refuse kN_X5 kC_X5_refuse hd_X5_refuse ⟨Nat.le_of_ble_eq_true rfl, Nat.le_of_ble_eq_true rfl⟩ rfl hl.1 (Nat.le_of_ble_eq_true rfl) (dk DX5_readStop_0 9 rfl) ⟨Nat.zero_le _, Nat.zero_le _⟩) (fun h1 H locs hp hH => ?_)
    rw [hp] at hH; clear hp
    cases sm hF
    exact mr_vret X hr hlk hH rfl (dk DX5_readStop_0 10 rfl)
  · replace hF := if_t hF c1
    refine lv_aload_n X.x X.b (dk DX5_readStop_0 4 rfl) rfl (lv_at hl 0 rfl) ?_
    obtain ⟨x5, e6, hF⟩ := bd hF
    refine mr_cv0 hH ⟨rfl, rfl⟩ (mr_runV (As := []) (rest := []) X hH (c_X5_step hq hq_mk ha lk_mk e6) ((oset_at hq (Nat.le_refl _) ohas_N).trans (congrArg some ocell_N)) OX5.1 kM_X5_50 kI_X5_step kS_X5_step kN_X5 kC_X5_step hd_X5_step ⟨Nat.le_of_ble_eq_true rfl, Nat.le_of_ble_eq_true rfl⟩ rfl hl.1 (Nat.le_of_ble_eq_true rfl) (dk DX5_readStop_0 5 rfl) ⟨Nat.zero_le _, Nat.zero_le _⟩) (fun h1 H locs hp hH => ?_)
    rw [hp] at hH; clear hp
    refine lv_goto (tgt := 20) X.x X.b (dk DX5_readStop_0 6 rfl) (by decide) ?_
    cases sm hF
    exact mr_vret X hr hlk hH rfl (dk DX5_readStop_0 10 rfl)
-- X5_readFirst
abbrev rm_X5_readFirst : Room := { frames := 8, cells := 0, slots := 0, locals := 170 }
theorem hd_X5_readFirst : mHd yX5_readFirst 1 := ⟨by decide +kernel, by decide +kernel, by decide +kernel⟩
theorem DX5_readFirst_0 : ∀ t ∈ ([(0, .aload_n 0, 1), (1, .getfield 53, 3), (4, .tableswitch 130 5 9 #[36, 50, 97, 108, 119], 36), (40, .aload_n 1, 1), (41, .aload_n 0, 1), (42, .iconst 1, 1), (43, .bipush 64, 2), (45, .invokevirtual 66, 3), (48, .invokevirtual 44, 3), (51, .goto 88, 3), (54, .aload_n 0, 1), (55, .iconst 2, 1), (56, .bipush 8, 2), (58, .invokevirtual 66, 3), (61, .istore_n 2, 1), (62, .aload_n 0, 1), (63, .getfield 41, 3), (66, .ifCond .ne 13, 3), (69, .aload_n 0, 1), (70, .iconst 2, 1), (71, .bipush 8, 2), (73, .invokevirtual 66, 3), (76, .goto 4, 3), (79, .iconst 0, 1), (80, .istore_n 3, 1), (81, .aload_n 0, 1), (82, .getfield 41, 3), (85, .ifCond .ne 54, 3), (88, .aload_n 0, 1), (89, .getfield 12, 3), (92, .aload_n 1, 1), (93, .iload_n 2, 1), (94, .iload_n 3, 1), (95, .invokevirtual 69, 3), (98, .goto 41, 3), (101, .aload_n 0, 1), (102, .getfield 12, 3), (105, .aload_n 1, 1), (106, .invokevirtual 73, 3), (109, .goto 30, 3), (112, .aload_n 0, 1), (113, .getfield 12, 3), (116, .aload_n 1, 1), (117, .invokevirtual 76, 3), (120, .goto 19, 3), (123, .aload_n 0, 1), (124, .getfield 12, 3), (127, .aload_n 1, 1), (128, .invokevirtual 79, 3), (131, .goto 8, 3), (134, .aload_n 0, 1), (135, .iconst 2, 1), (136, .invokevirtual 82, 3), (139, .aload_n 0, 1), (140, .getfield 41, 3), (143, .ifCond .ne 11, 3), (146, .aload_n 0, 1), (147, .invokevirtual 50, 3), (150, .aload_n 0, 1), (151, .invokevirtual 85, 3)] : List (Nat × Instr × Nat)), decode cX5_readFirst t.1 = .ok (t.2.1, t.2.2) := by decide +kernel
theorem DX5_readFirst_1 : ∀ t ∈ ([(154, .return_, 1)] : List (Nat × Instr × Nat)), decode cX5_readFirst t.1 = .ok (t.2.1, t.2.2) := by decide +kernel
noncomputable def f_X5_readFirst (st : OS) (st_mk : OS) (st1 : OS) : Option (OS × OS) := (if st.1 4 = 5 then (f_X5_readNumber st st_mk 1 64).bind (fun x2 => match x2 with | (v4, t5) => (f_X10_clear st1 v4).bind (fun x6 => (if (t5.1 8) = 0 then (f_X5_step t5 st_mk).bind (fun x10 => (f_X5_readStop x10 st_mk).bind (fun x13 => some ((x13, x6)))) else some ((t5, x6))))) else (if st.1 4 = 6 then (f_X5_readNumber st st_mk 2 8).bind (fun x17 => match x17 with | (v19, t20) => (if (t20.1 8) = 0 then (f_X5_readNumber t20 st_mk 2 8).bind (fun x40 => match x40 with | (v42, t43) => (if (t43.1 8) = 0 then (f_X3_makeGrid st_mk st1 v19 v42).bind (fun x52 => (if (t43.1 8) = 0 then (f_X5_step t43 st_mk).bind (fun x56 => (f_X5_readStop x56 st_mk).bind (fun x59 => some ((x59, x52)))) else some ((t43, x52)))) else (if (t43.1 8) = 0 then (f_X5_step t43 st_mk).bind (fun x46 => (f_X5_readStop x46 st_mk).bind (fun x49 => some ((x49, st1)))) else some ((t43, st1))))) else (if (t20.1 8) = 0 then (f_X3_makeGrid st_mk st1 v19 0).bind (fun x30 => (if (t20.1 8) = 0 then (f_X5_step t20 st_mk).bind (fun x34 => (f_X5_readStop x34 st_mk).bind (fun x37 => some ((x37, x30)))) else some ((t20, x30)))) else (if (t20.1 8) = 0 then (f_X5_step t20 st_mk).bind (fun x24 => (f_X5_readStop x24 st_mk).bind (fun x27 => some ((x27, st1)))) else some ((t20, st1)))))) else (if st.1 4 = 7 then (f_X3_makeDuads st_mk st1).bind (fun x63 => (if (st.1 8) = 0 then (f_X5_step st st_mk).bind (fun x67 => (f_X5_readStop x67 st_mk).bind (fun x70 => some ((x70, x63)))) else some ((st, x63)))) else (if st.1 4 = 8 then (f_X3_makeSixes st_mk st1).bind (fun x74 => (if (st.1 8) = 0 then (f_X5_step st st_mk).bind (fun x78 => (f_X5_readStop x78 st_mk).bind (fun x81 => some ((x81, x74)))) else some ((st, x74)))) else (if st.1 4 = 9 then (f_X3_makeThrees st_mk st1).bind (fun x85 => (if (st.1 8) = 0 then (f_X5_step st st_mk).bind (fun x89 => (f_X5_readStop x89 st_mk).bind (fun x92 => some ((x92, x85)))) else some ((st, x85)))) else (f_X5_refuse st st_mk 2).bind (fun x95 => (if (x95.1 8) = 0 then (f_X5_step x95 st_mk).bind (fun x99 => (f_X5_readStop x99 st_mk).bind (fun x102 => some ((x102, st1)))) else some ((x95, st1)))))))))
set_option maxHeartbeats 4000000 in
set_option maxRecDepth 100000 in
theorem c_X5_readFirst {l : Launch} {G : mG} {h : mM} {q : Nat → Nat} {q_mk : Nat → Nat} {q1 : Nat → Nat} (hq : oinj LX5 q) (hq_mk : oinj LX3 q_mk) (hq1 : oinj LX10 q1) (ha : oap [(LX5, q), (LX3, q_mk), (LX10, q1)]) (lk_mk : q 0 = q_mk 3) {st : OS} {st_mk : OS} {st1 : OS} {x : OS × OS} (hF : f_X5_readFirst st st_mk st1 = some x) : cQ l G yX5_readFirst cX5_readFirst 4 none rm_X5_readFirst [.ref (q 10), .ref (q1 5)] (oset LX5 G q st (oset LX3 G q_mk st_mk (oset LX10 G q1 st1 h))) (mQv G (fun h1 => h1 = oset LX5 G q x.1 (oset LX3 G q_mk st_mk (oset LX10 G q1 x.2 h)))) := by
  refine mp_of (by decide +kernel) (Nat.le_of_ble_eq_true rfl) ?_
  intro p e s m below meth c X hr hlk hH hname ls hl
  dsimp only [f_X5_readFirst] at hF
  replace hl : lv_has ls 4 [(0, .ref (q 10)), (1, .ref (q1 5))] := hl
  refine lv_aload_n X.x X.b (dk DX5_readFirst_0 0 rfl) rfl (lv_at hl 0 rfl) ?_
  refine og_getI OX5 X hq hH 4 (by decide) rfl kF_X5_53 (dk DX5_readFirst_0 1 rfl) ?_
  by_cases c1 : st.1 4 = 5
  · refine lv_tableIn (tgt := 40) X.x X.b (dk DX5_readFirst_0 2 rfl) (by rw [c1]; decide) (by rw [c1]; decide) (by rw [c1]; rfl) (by decide) ?_
    replace hF := if_t hF c1
    refine lv_aload_n X.x X.b (dk DX5_readFirst_0 3 rfl) rfl (lv_at hl 1 rfl) ?_
    refine lv_aload_n X.x X.b (dk DX5_readFirst_0 4 rfl) rfl (lv_at hl 0 rfl) ?_
    refine lv_iconst (v := 1) X.x X.b (dk DX5_readFirst_0 5 rfl) (by decide) ?_
    refine lv_bipush (v := 64) X.x X.b (dk DX5_readFirst_0 6 rfl) (by decide) ?_
    obtain ⟨x2, e3, hF⟩ := bd hF
    refine mr_ci0 hH ⟨rfl, rfl⟩ (mr_runV (As := [.int 1, .int 64]) (rest := [.ref (q1 5)]) X hH (c_X5_readNumber hq hq_mk (oap_sub ha [0, 1] rfl rfl) lk_mk e3) ((oset_at hq (Nat.le_refl _) ohas_N).trans (congrArg some ocell_N)) OX5.1 kM_X5_66 kI_X5_readNumber kS_X5_readNumber kN_X5 kC_X5_readNumber hd_X5_readNumber ⟨Nat.le_of_ble_eq_true rfl, Nat.le_of_ble_eq_true rfl⟩ rfl hl.1 (Nat.le_of_ble_eq_true rfl) (dk DX5_readFirst_0 7 rfl) ⟨Nat.zero_le _, Nat.zero_le _⟩) (fun r h1 H locs hp hH => ?_)
    obtain ⟨hr1, hr2⟩ := hp; rw [hr1]; rw [hr2] at hH; clear hr1 hr2
    obtain ⟨v4, t5⟩ := x2
    try dsimp only at hF hH ⊢
    obtain ⟨x6, e7, hF⟩ := bd hF
    refine mr_cv0 (mH_perm (l1 := [(LX5, q, t5), (LX3, q_mk, st_mk), (LX10, q1, st1)]) (l2 := [(LX10, q1, st1), (LX5, q, t5), (LX3, q_mk, st_mk)]) ha [2, 0, 1] [1, 2, 0] rfl rfl rfl hH) ⟨rfl, rfl⟩ (mr_runV (As := [.int v4]) (rest := []) X (mH_perm (l1 := [(LX5, q, t5), (LX3, q_mk, st_mk), (LX10, q1, st1)]) (l2 := [(LX10, q1, st1), (LX5, q, t5), (LX3, q_mk, st_mk)]) ha [2, 0, 1] [1, 2, 0] rfl rfl rfl hH) (c_X10_clear hq1 e7) ((oset_at hq1 (Nat.le_refl _) ohas_N).trans (congrArg some ocell_N)) OX10.1 kM_X5_44 kI_X10_clear kS_X10_clear kN_X10 kC_X10_clear hd_X10_clear ⟨Nat.le_of_ble_eq_true rfl, Nat.le_of_ble_eq_true rfl⟩ rfl hl.1 (Nat.le_of_ble_eq_true rfl) (dk DX5_readFirst_0 8 rfl) ⟨Nat.zero_le _, Nat.zero_le _⟩) (fun h1 H locs hp hH => ?_)
    rw [hp] at hH; clear hp
    replace hH : mH G (oset LX5 G q t5 (oset LX3 G q_mk st_mk (oset LX10 G q1 x6 h))) s.heap H locs := mH_unperm (l1 := [(LX5, q, t5), (LX3, q_mk, st_mk), (LX10, q1, x6)]) (l2 := [(LX10, q1, x6), (LX5, q, t5), (LX3, q_mk, st_mk)]) ha [2, 0, 1] [1, 2, 0] rfl rfl rfl hH
    refine lv_goto (tgt := 139) X.x X.b (dk DX5_readFirst_0 9 rfl) (by decide) ?_
    refine lv_aload_n X.x X.b (dk DX5_readFirst_0 53 rfl) rfl (lv_at hl 0 rfl) ?_
    refine og_getI OX5 X hq hH 8 (by decide) rfl kF_X5_41 (dk DX5_readFirst_0 54 rfl) ?_
    refine lv_if_ne (tgt := 154) X.x X.b (dk DX5_readFirst_0 55 rfl) (by decide) (fun c9 => ?_) (fun c9 => ?_)
    · replace hF := if_f hF c9
      cases sm hF
      exact mr_vret X hr hlk hH rfl (dk DX5_readFirst_1 0 rfl)
    · replace hF := if_t hF c9
      refine lv_aload_n X.x X.b (dk DX5_readFirst_0 56 rfl) rfl (lv_at hl 0 rfl) ?_
      obtain ⟨x10, e11, hF⟩ := bd hF
      refine mr_cv0 hH ⟨rfl, rfl⟩ (mr_runV (As := []) (rest := []) X hH (c_X5_step hq hq_mk (oap_sub ha [0, 1] rfl rfl) lk_mk e11) ((oset_at hq (Nat.le_refl _) ohas_N).trans (congrArg some ocell_N)) OX5.1 kM_X5_50 kI_X5_step kS_X5_step kN_X5 kC_X5_step hd_X5_step ⟨Nat.le_of_ble_eq_true rfl, Nat.le_of_ble_eq_true rfl⟩ rfl hl.1 (Nat.le_of_ble_eq_true rfl) (dk DX5_readFirst_0 57 rfl) ⟨Nat.zero_le _, Nat.zero_le _⟩) (fun h1 H locs hp hH => ?_)
      rw [hp] at hH; clear hp
      refine lv_aload_n X.x X.b (dk DX5_readFirst_0 58 rfl) rfl (lv_at hl 0 rfl) ?_
      obtain ⟨x13, e14, hF⟩ := bd hF
      refine mr_cv0 hH ⟨rfl, rfl⟩ (mr_runV (As := []) (rest := []) X hH (c_X5_readStop hq hq_mk (oap_sub ha [0, 1] rfl rfl) lk_mk e14) ((oset_at hq (Nat.le_refl _) ohas_N).trans (congrArg some ocell_N)) OX5.1 kM_X5_85 kI_X5_readStop kS_X5_readStop kN_X5 kC_X5_readStop hd_X5_readStop ⟨Nat.le_of_ble_eq_true rfl, Nat.le_of_ble_eq_true rfl⟩ rfl hl.1 (Nat.le_of_ble_eq_true rfl) (dk DX5_readFirst_0 59 rfl) ⟨Nat.zero_le _, Nat.zero_le _⟩) (fun h1 H locs hp hH => ?_)
      rw [hp] at hH; clear hp
      cases sm hF
      exact mr_vret X hr hlk hH rfl (dk DX5_readFirst_1 0 rfl)
  · replace hF := if_f hF c1
    by_cases c16 : st.1 4 = 6
    · refine lv_tableIn (tgt := 54) X.x X.b (dk DX5_readFirst_0 2 rfl) (by rw [c16]; decide) (by rw [c16]; decide) (by rw [c16]; rfl) (by decide) ?_
      replace hF := if_t hF c16
      refine lv_aload_n X.x X.b (dk DX5_readFirst_0 10 rfl) rfl (lv_at hl 0 rfl) ?_
      refine lv_iconst (v := 2) X.x X.b (dk DX5_readFirst_0 11 rfl) (by decide) ?_
      refine lv_bipush (v := 8) X.x X.b (dk DX5_readFirst_0 12 rfl) (by decide) ?_
      obtain ⟨x17, e18, hF⟩ := bd hF
      refine mr_ci0 hH ⟨rfl, rfl⟩ (mr_runV (As := [.int 2, .int 8]) (rest := []) X hH (c_X5_readNumber hq hq_mk (oap_sub ha [0, 1] rfl rfl) lk_mk e18) ((oset_at hq (Nat.le_refl _) ohas_N).trans (congrArg some ocell_N)) OX5.1 kM_X5_66 kI_X5_readNumber kS_X5_readNumber kN_X5 kC_X5_readNumber hd_X5_readNumber ⟨Nat.le_of_ble_eq_true rfl, Nat.le_of_ble_eq_true rfl⟩ rfl hl.1 (Nat.le_of_ble_eq_true rfl) (dk DX5_readFirst_0 13 rfl) ⟨Nat.zero_le _, Nat.zero_le _⟩) (fun r h1 H locs hp hH => ?_)
      obtain ⟨hr1, hr2⟩ := hp; rw [hr1]; rw [hr2] at hH; clear hr1 hr2
      obtain ⟨v19, t20⟩ := x17
      try dsimp only at hF hH ⊢
      refine lv_istore_n (lv' := [(2, .int v19), (0, .ref (q 10)), (1, .ref (q1 5))]) X.x X.b (dk DX5_readFirst_0 14 rfl) rfl hl (by decide) rfl (fun ls hl => ?_)
      replace hl : lv_has ls 4 [(0, .ref (q 10)), (1, .ref (q1 5)), (2, .int v19)] := lv_sub hl [1, 2, 0] rfl
      refine lv_aload_n X.x X.b (dk DX5_readFirst_0 15 rfl) rfl (lv_at hl 0 rfl) ?_
      refine og_getI OX5 X hq hH 8 (by decide) rfl kF_X5_41 (dk DX5_readFirst_0 16 rfl) ?_
      refine lv_if_ne (tgt := 79) X.x X.b (dk DX5_readFirst_0 17 rfl) (by decide) (fun c21 => ?_) (fun c21 => ?_)
      · replace hF := if_f hF c21
        refine lv_iconst (v := 0) X.x X.b (dk DX5_readFirst_0 23 rfl) (by decide) ?_
        refine lv_istore_n (lv' := [(3, .int 0), (0, .ref (q 10)), (1, .ref (q1 5)), (2, .int v19)]) X.x X.b (dk DX5_readFirst_0 24 rfl) rfl hl (by decide) rfl (fun ls hl => ?_)
        replace hl : lv_has ls 4 [(0, .ref (q 10)), (1, .ref (q1 5)), (2, .int v19), (3, .int 0)] := lv_sub hl [1, 2, 3, 0] rfl
        refine lv_aload_n X.x X.b (dk DX5_readFirst_0 25 rfl) rfl (lv_at hl 0 rfl) ?_
        refine og_getI OX5 X hq hH 8 (by decide) rfl kF_X5_41 (dk DX5_readFirst_0 26 rfl) ?_
        refine lv_if_ne (tgt := 139) X.x X.b (dk DX5_readFirst_0 27 rfl) (by decide) (fun c22 => ?_) (fun c22 => ?_)
        · replace hF := if_f hF c22
          refine lv_aload_n X.x X.b (dk DX5_readFirst_0 53 rfl) rfl (lv_at hl 0 rfl) ?_
          refine og_getI OX5 X hq hH 8 (by decide) rfl kF_X5_41 (dk DX5_readFirst_0 54 rfl) ?_
          refine lv_if_ne (tgt := 154) X.x X.b (dk DX5_readFirst_0 55 rfl) (by decide) (fun c23 => ?_) (fun c23 => ?_)
          · replace hF := if_f hF c23
            cases sm hF
            exact mr_vret X hr hlk hH rfl (dk DX5_readFirst_1 0 rfl)
          · replace hF := if_t hF c23
            refine lv_aload_n X.x X.b (dk DX5_readFirst_0 56 rfl) rfl (lv_at hl 0 rfl) ?_
            obtain ⟨x24, e25, hF⟩ := bd hF
            refine mr_cv0 hH ⟨rfl, rfl⟩ (mr_runV (As := []) (rest := []) X hH (c_X5_step hq hq_mk (oap_sub ha [0, 1] rfl rfl) lk_mk e25) ((oset_at hq (Nat.le_refl _) ohas_N).trans (congrArg some ocell_N)) OX5.1 kM_X5_50 kI_X5_step kS_X5_step kN_X5 kC_X5_step hd_X5_step ⟨Nat.le_of_ble_eq_true rfl, Nat.le_of_ble_eq_true rfl⟩ rfl hl.1 (Nat.le_of_ble_eq_true rfl) (dk DX5_readFirst_0 57 rfl) ⟨Nat.zero_le _, Nat.zero_le _⟩) (fun h1 H locs hp hH => ?_)
            rw [hp] at hH; clear hp
            refine lv_aload_n X.x X.b (dk DX5_readFirst_0 58 rfl) rfl (lv_at hl 0 rfl) ?_
            obtain ⟨x27, e28, hF⟩ := bd hF
            refine mr_cv0 hH ⟨rfl, rfl⟩ (mr_runV (As := []) (rest := []) X hH (c_X5_readStop hq hq_mk (oap_sub ha [0, 1] rfl rfl) lk_mk e28) ((oset_at hq (Nat.le_refl _) ohas_N).trans (congrArg some ocell_N)) OX5.1 kM_X5_85 kI_X5_readStop kS_X5_readStop kN_X5 kC_X5_readStop hd_X5_readStop ⟨Nat.le_of_ble_eq_true rfl, Nat.le_of_ble_eq_true rfl⟩ rfl hl.1 (Nat.le_of_ble_eq_true rfl) (dk DX5_readFirst_0 59 rfl) ⟨Nat.zero_le _, Nat.zero_le _⟩) (fun h1 H locs hp hH => ?_)
            rw [hp] at hH; clear hp
            cases sm hF
            exact mr_vret X hr hlk hH rfl (dk DX5_readFirst_1 0 rfl)
        · replace hF := if_t hF c22
          refine lv_aload_n X.x X.b (dk DX5_readFirst_0 28 rfl) rfl (lv_at hl 0 rfl) ?_
          refine og_getR (t := 4) OX5 X hq hH 0 (by decide) rfl kF_X5_12 (dk DX5_readFirst_0 29 rfl) ?_
          rw [lk_mk]
          refine lv_aload_n X.x X.b (dk DX5_readFirst_0 30 rfl) rfl (lv_at hl 1 rfl) ?_
          refine lv_iload_n X.x X.b (dk DX5_readFirst_0 31 rfl) rfl (lv_at hl 2 rfl) ?_
          refine lv_iload_n X.x X.b (dk DX5_readFirst_0 32 rfl) rfl (lv_at hl 3 rfl) ?_
          obtain ⟨x30, e31, hF⟩ := bd hF
          refine mr_cv0 (mH_perm (l1 := [(LX5, q, t20), (LX3, q_mk, st_mk), (LX10, q1, st1)]) (l2 := [(LX3, q_mk, st_mk), (LX10, q1, st1), (LX5, q, t20)]) ha [1, 2, 0] [2, 0, 1] rfl rfl rfl hH) ⟨rfl, rfl⟩ (mr_runV (As := [.ref (q1 5), .int v19, .int 0]) (rest := []) X (mH_perm (l1 := [(LX5, q, t20), (LX3, q_mk, st_mk), (LX10, q1, st1)]) (l2 := [(LX3, q_mk, st_mk), (LX10, q1, st1), (LX5, q, t20)]) ha [1, 2, 0] [2, 0, 1] rfl rfl rfl hH) (c_X3_makeGrid hq_mk hq1 (oap_sub ha [1, 2] rfl rfl) e31) ((oset_at hq_mk (Nat.le_refl _) ohas_N).trans (congrArg some ocell_N)) OX3.1 kM_X5_69 kI_X3_makeGrid kS_X3_makeGrid kN_X3 kC_X3_makeGrid hd_X3_makeGrid ⟨Nat.le_of_ble_eq_true rfl, Nat.le_of_ble_eq_true rfl⟩ rfl hl.1 (Nat.le_of_ble_eq_true rfl) (dk DX5_readFirst_0 33 rfl) ⟨Nat.zero_le _, Nat.zero_le _⟩) (fun h1 H locs hp hH => ?_)
          rw [hp] at hH; clear hp
          replace hH : mH G (oset LX5 G q t20 (oset LX3 G q_mk st_mk (oset LX10 G q1 x30 h))) s.heap H locs := mH_unperm (l1 := [(LX5, q, t20), (LX3, q_mk, st_mk), (LX10, q1, x30)]) (l2 := [(LX3, q_mk, st_mk), (LX10, q1, x30), (LX5, q, t20)]) ha [1, 2, 0] [2, 0, 1] rfl rfl rfl hH
          refine lv_goto (tgt := 139) X.x X.b (dk DX5_readFirst_0 34 rfl) (by decide) ?_
          refine lv_aload_n X.x X.b (dk DX5_readFirst_0 53 rfl) rfl (lv_at hl 0 rfl) ?_
          refine og_getI OX5 X hq hH 8 (by decide) rfl kF_X5_41 (dk DX5_readFirst_0 54 rfl) ?_
          refine lv_if_ne (tgt := 154) X.x X.b (dk DX5_readFirst_0 55 rfl) (by decide) (fun c33 => ?_) (fun c33 => ?_)
          · replace hF := if_f hF c33
            cases sm hF
            exact mr_vret X hr hlk hH rfl (dk DX5_readFirst_1 0 rfl)
          · replace hF := if_t hF c33
            refine lv_aload_n X.x X.b (dk DX5_readFirst_0 56 rfl) rfl (lv_at hl 0 rfl) ?_
            obtain ⟨x34, e35, hF⟩ := bd hF
            refine mr_cv0 hH ⟨rfl, rfl⟩ (mr_runV (As := []) (rest := []) X hH (c_X5_step hq hq_mk (oap_sub ha [0, 1] rfl rfl) lk_mk e35) ((oset_at hq (Nat.le_refl _) ohas_N).trans (congrArg some ocell_N)) OX5.1 kM_X5_50 kI_X5_step kS_X5_step kN_X5 kC_X5_step hd_X5_step ⟨Nat.le_of_ble_eq_true rfl, Nat.le_of_ble_eq_true rfl⟩ rfl hl.1 (Nat.le_of_ble_eq_true rfl) (dk DX5_readFirst_0 57 rfl) ⟨Nat.zero_le _, Nat.zero_le _⟩) (fun h1 H locs hp hH => ?_)
            rw [hp] at hH; clear hp
            refine lv_aload_n X.x X.b (dk DX5_readFirst_0 58 rfl) rfl (lv_at hl 0 rfl) ?_
            obtain ⟨x37, e38, hF⟩ := bd hF
            refine mr_cv0 hH ⟨rfl, rfl⟩ (mr_runV (As := []) (rest := []) X hH (c_X5_readStop hq hq_mk (oap_sub ha [0, 1] rfl rfl) lk_mk e38) ((oset_at hq (Nat.le_refl _) ohas_N).trans (congrArg some ocell_N)) OX5.1 kM_X5_85 kI_X5_readStop kS_X5_readStop kN_X5 kC_X5_readStop hd_X5_readStop ⟨Nat.le_of_ble_eq_true rfl, Nat.le_of_ble_eq_true rfl⟩ rfl hl.1 (Nat.le_of_ble_eq_true rfl) (dk DX5_readFirst_0 59 rfl) ⟨Nat.zero_le _, Nat.zero_le _⟩) (fun h1 H locs hp hH => ?_)
            rw [hp] at hH; clear hp
            cases sm hF
            exact mr_vret X hr hlk hH rfl (dk DX5_readFirst_1 0 rfl)
      · replace hF := if_t hF c21
        refine lv_aload_n X.x X.b (dk DX5_readFirst_0 18 rfl) rfl (lv_at hl 0 rfl) ?_
        refine lv_iconst (v := 2) X.x X.b (dk DX5_readFirst_0 19 rfl) (by decide) ?_
        refine lv_bipush (v := 8) X.x X.b (dk DX5_readFirst_0 20 rfl) (by decide) ?_
        obtain ⟨x40, e41, hF⟩ := bd hF
        refine mr_ci0 hH ⟨rfl, rfl⟩ (mr_runV (As := [.int 2, .int 8]) (rest := []) X hH (c_X5_readNumber hq hq_mk (oap_sub ha [0, 1] rfl rfl) lk_mk e41) ((oset_at hq (Nat.le_refl _) ohas_N).trans (congrArg some ocell_N)) OX5.1 kM_X5_66 kI_X5_readNumber kS_X5_readNumber kN_X5 kC_X5_readNumber hd_X5_readNumber ⟨Nat.le_of_ble_eq_true rfl, Nat.le_of_ble_eq_true rfl⟩ rfl hl.1 (Nat.le_of_ble_eq_true rfl) (dk DX5_readFirst_0 21 rfl) ⟨Nat.zero_le _, Nat.zero_le _⟩) (fun r h1 H locs hp hH => ?_)
        obtain ⟨hr1, hr2⟩ := hp; rw [hr1]; rw [hr2] at hH; clear hr1 hr2
        obtain ⟨v42, t43⟩ := x40
        try dsimp only at hF hH ⊢
        refine lv_goto (tgt := 80) X.x X.b (dk DX5_readFirst_0 22 rfl) (by decide) ?_
        refine lv_istore_n (lv' := [(3, .int v42), (0, .ref (q 10)), (1, .ref (q1 5)), (2, .int v19)]) X.x X.b (dk DX5_readFirst_0 24 rfl) rfl hl (by decide) rfl (fun ls hl => ?_)
        replace hl : lv_has ls 4 [(0, .ref (q 10)), (1, .ref (q1 5)), (2, .int v19), (3, .int v42)] := lv_sub hl [1, 2, 3, 0] rfl
        refine lv_aload_n X.x X.b (dk DX5_readFirst_0 25 rfl) rfl (lv_at hl 0 rfl) ?_
        refine og_getI OX5 X hq hH 8 (by decide) rfl kF_X5_41 (dk DX5_readFirst_0 26 rfl) ?_
        refine lv_if_ne (tgt := 139) X.x X.b (dk DX5_readFirst_0 27 rfl) (by decide) (fun c44 => ?_) (fun c44 => ?_)
        · replace hF := if_f hF c44
          refine lv_aload_n X.x X.b (dk DX5_readFirst_0 53 rfl) rfl (lv_at hl 0 rfl) ?_
          refine og_getI OX5 X hq hH 8 (by decide) rfl kF_X5_41 (dk DX5_readFirst_0 54 rfl) ?_
          refine lv_if_ne (tgt := 154) X.x X.b (dk DX5_readFirst_0 55 rfl) (by decide) (fun c45 => ?_) (fun c45 => ?_)
          · replace hF := if_f hF c45
            cases sm hF
            exact mr_vret X hr hlk hH rfl (dk DX5_readFirst_1 0 rfl)
          · replace hF := if_t hF c45
            refine lv_aload_n X.x X.b (dk DX5_readFirst_0 56 rfl) rfl (lv_at hl 0 rfl) ?_
            obtain ⟨x46, e47, hF⟩ := bd hF
            refine mr_cv0 hH ⟨rfl, rfl⟩ (mr_runV (As := []) (rest := []) X hH (c_X5_step hq hq_mk (oap_sub ha [0, 1] rfl rfl) lk_mk e47) ((oset_at hq (Nat.le_refl _) ohas_N).trans (congrArg some ocell_N)) OX5.1 kM_X5_50 kI_X5_step kS_X5_step kN_X5 kC_X5_step hd_X5_step ⟨Nat.le_of_ble_eq_true rfl, Nat.le_of_ble_eq_true rfl⟩ rfl hl.1 (Nat.le_of_ble_eq_true rfl) (dk DX5_readFirst_0 57 rfl) ⟨Nat.zero_le _, Nat.zero_le _⟩) (fun h1 H locs hp hH => ?_)
            rw [hp] at hH; clear hp
            refine lv_aload_n X.x X.b (dk DX5_readFirst_0 58 rfl) rfl (lv_at hl 0 rfl) ?_
            obtain ⟨x49, e50, hF⟩ := bd hF
            refine mr_cv0 hH ⟨rfl, rfl⟩ (mr_runV (As := []) (rest := []) X hH (c_X5_readStop hq hq_mk (oap_sub ha [0, 1] rfl rfl) lk_mk e50) ((oset_at hq (Nat.le_refl _) ohas_N).trans (congrArg some ocell_N)) OX5.1 kM_X5_85 kI_X5_readStop kS_X5_readStop kN_X5 kC_X5_readStop hd_X5_readStop ⟨Nat.le_of_ble_eq_true rfl, Nat.le_of_ble_eq_true rfl⟩ rfl hl.1 (Nat.le_of_ble_eq_true rfl) (dk DX5_readFirst_0 59 rfl) ⟨Nat.zero_le _, Nat.zero_le _⟩) (fun h1 H locs hp hH => ?_)
            rw [hp] at hH; clear hp
            cases sm hF
            exact mr_vret X hr hlk hH rfl (dk DX5_readFirst_1 0 rfl)
        · replace hF := if_t hF c44
          refine lv_aload_n X.x X.b (dk DX5_readFirst_0 28 rfl) rfl (lv_at hl 0 rfl) ?_
          refine og_getR (t := 4) OX5 X hq hH 0 (by decide) rfl kF_X5_12 (dk DX5_readFirst_0 29 rfl) ?_
          rw [lk_mk]
          refine lv_aload_n X.x X.b (dk DX5_readFirst_0 30 rfl) rfl (lv_at hl 1 rfl) ?_
          refine lv_iload_n X.x X.b (dk DX5_readFirst_0 31 rfl) rfl (lv_at hl 2 rfl) ?_
          refine lv_iload_n X.x X.b (dk DX5_readFirst_0 32 rfl) rfl (lv_at hl 3 rfl) ?_
          obtain ⟨x52, e53, hF⟩ := bd hF
          refine mr_cv0 (mH_perm (l1 := [(LX5, q, t43), (LX3, q_mk, st_mk), (LX10, q1, st1)]) (l2 := [(LX3, q_mk, st_mk), (LX10, q1, st1), (LX5, q, t43)]) ha [1, 2, 0] [2, 0, 1] rfl rfl rfl hH) ⟨rfl, rfl⟩ (mr_runV (As := [.ref (q1 5), .int v19, .int v42]) (rest := []) X (mH_perm (l1 := [(LX5, q, t43), (LX3, q_mk, st_mk), (LX10, q1, st1)]) (l2 := [(LX3, q_mk, st_mk), (LX10, q1, st1), (LX5, q, t43)]) ha [1, 2, 0] [2, 0, 1] rfl rfl rfl hH) (c_X3_makeGrid hq_mk hq1 (oap_sub ha [1, 2] rfl rfl) e53) ((oset_at hq_mk (Nat.le_refl _) ohas_N).trans (congrArg some ocell_N)) OX3.1 kM_X5_69 kI_X3_makeGrid kS_X3_makeGrid kN_X3 kC_X3_makeGrid hd_X3_makeGrid ⟨Nat.le_of_ble_eq_true rfl, Nat.le_of_ble_eq_true rfl⟩ rfl hl.1 (Nat.le_of_ble_eq_true rfl) (dk DX5_readFirst_0 33 rfl) ⟨Nat.zero_le _, Nat.zero_le _⟩) (fun h1 H locs hp hH => ?_)
          rw [hp] at hH; clear hp
          replace hH : mH G (oset LX5 G q t43 (oset LX3 G q_mk st_mk (oset LX10 G q1 x52 h))) s.heap H locs := mH_unperm (l1 := [(LX5, q, t43), (LX3, q_mk, st_mk), (LX10, q1, x52)]) (l2 := [(LX3, q_mk, st_mk), (LX10, q1, x52), (LX5, q, t43)]) ha [1, 2, 0] [2, 0, 1] rfl rfl rfl hH
          refine lv_goto (tgt := 139) X.x X.b (dk DX5_readFirst_0 34 rfl) (by decide) ?_
          refine lv_aload_n X.x X.b (dk DX5_readFirst_0 53 rfl) rfl (lv_at hl 0 rfl) ?_
          refine og_getI OX5 X hq hH 8 (by decide) rfl kF_X5_41 (dk DX5_readFirst_0 54 rfl) ?_
          refine lv_if_ne (tgt := 154) X.x X.b (dk DX5_readFirst_0 55 rfl) (by decide) (fun c55 => ?_) (fun c55 => ?_)
          · replace hF := if_f hF c55
            cases sm hF
            exact mr_vret X hr hlk hH rfl (dk DX5_readFirst_1 0 rfl)
          · replace hF := if_t hF c55
            refine lv_aload_n X.x X.b (dk DX5_readFirst_0 56 rfl) rfl (lv_at hl 0 rfl) ?_
            obtain ⟨x56, e57, hF⟩ := bd hF
            refine mr_cv0 hH ⟨rfl, rfl⟩ (mr_runV (As := []) (rest := []) X hH (c_X5_step hq hq_mk (oap_sub ha [0, 1] rfl rfl) lk_mk e57) ((oset_at hq (Nat.le_refl _) ohas_N).trans (congrArg some ocell_N)) OX5.1 kM_X5_50 kI_X5_step kS_X5_step kN_X5 kC_X5_step hd_X5_step ⟨Nat.le_of_ble_eq_true rfl, Nat.le_of_ble_eq_true rfl⟩ rfl hl.1 (Nat.le_of_ble_eq_true rfl) (dk DX5_readFirst_0 57 rfl) ⟨Nat.zero_le _, Nat.zero_le _⟩) (fun h1 H locs hp hH => ?_)
            rw [hp] at hH; clear hp
            refine lv_aload_n X.x X.b (dk DX5_readFirst_0 58 rfl) rfl (lv_at hl 0 rfl) ?_
            obtain ⟨x59, e60, hF⟩ := bd hF
            refine mr_cv0 hH ⟨rfl, rfl⟩ (mr_runV (As := []) (rest := []) X hH (c_X5_readStop hq hq_mk (oap_sub ha [0, 1] rfl rfl) lk_mk e60) ((oset_at hq (Nat.le_refl _) ohas_N).trans (congrArg some ocell_N)) OX5.1 kM_X5_85 kI_X5_readStop kS_X5_readStop kN_X5 kC_X5_readStop hd_X5_readStop ⟨Nat.le_of_ble_eq_true rfl, Nat.le_of_ble_eq_true rfl⟩ rfl hl.1 (Nat.le_of_ble_eq_true rfl) (dk DX5_readFirst_0 59 rfl) ⟨Nat.zero_le _, Nat.zero_le _⟩) (fun h1 H locs hp hH => ?_)
            rw [hp] at hH; clear hp
            cases sm hF
            exact mr_vret X hr hlk hH rfl (dk DX5_readFirst_1 0 rfl)
    · replace hF := if_f hF c16
      by_cases c62 : st.1 4 = 7
      · refine lv_tableIn (tgt := 101) X.x X.b (dk DX5_readFirst_0 2 rfl) (by rw [c62]; decide) (by rw [c62]; decide) (by rw [c62]; rfl) (by decide) ?_
        replace hF := if_t hF c62
        refine lv_aload_n X.x X.b (dk DX5_readFirst_0 35 rfl) rfl (lv_at hl 0 rfl) ?_
        refine og_getR (t := 4) OX5 X hq hH 0 (by decide) rfl kF_X5_12 (dk DX5_readFirst_0 36 rfl) ?_
        rw [lk_mk]
        refine lv_aload_n X.x X.b (dk DX5_readFirst_0 37 rfl) rfl (lv_at hl 1 rfl) ?_
        obtain ⟨x63, e64, hF⟩ := bd hF
        refine mr_cv0 (mH_perm (l1 := [(LX5, q, st), (LX3, q_mk, st_mk), (LX10, q1, st1)]) (l2 := [(LX3, q_mk, st_mk), (LX10, q1, st1), (LX5, q, st)]) ha [1, 2, 0] [2, 0, 1] rfl rfl rfl hH) ⟨rfl, rfl⟩ (mr_runV (As := [.ref (q1 5)]) (rest := []) X (mH_perm (l1 := [(LX5, q, st), (LX3, q_mk, st_mk), (LX10, q1, st1)]) (l2 := [(LX3, q_mk, st_mk), (LX10, q1, st1), (LX5, q, st)]) ha [1, 2, 0] [2, 0, 1] rfl rfl rfl hH) (c_X3_makeDuads hq_mk hq1 (oap_sub ha [1, 2] rfl rfl) e64) ((oset_at hq_mk (Nat.le_refl _) ohas_N).trans (congrArg some ocell_N)) OX3.1 kM_X5_73 kI_X3_makeDuads kS_X3_makeDuads kN_X3 kC_X3_makeDuads hd_X3_makeDuads ⟨Nat.le_of_ble_eq_true rfl, Nat.le_of_ble_eq_true rfl⟩ rfl hl.1 (Nat.le_of_ble_eq_true rfl) (dk DX5_readFirst_0 38 rfl) ⟨Nat.zero_le _, Nat.zero_le _⟩) (fun h1 H locs hp hH => ?_)
        rw [hp] at hH; clear hp
        replace hH : mH G (oset LX5 G q st (oset LX3 G q_mk st_mk (oset LX10 G q1 x63 h))) s.heap H locs := mH_unperm (l1 := [(LX5, q, st), (LX3, q_mk, st_mk), (LX10, q1, x63)]) (l2 := [(LX3, q_mk, st_mk), (LX10, q1, x63), (LX5, q, st)]) ha [1, 2, 0] [2, 0, 1] rfl rfl rfl hH
        refine lv_goto (tgt := 139) X.x X.b (dk DX5_readFirst_0 39 rfl) (by decide) ?_
        refine lv_aload_n X.x X.b (dk DX5_readFirst_0 53 rfl) rfl (lv_at hl 0 rfl) ?_
        refine og_getI OX5 X hq hH 8 (by decide) rfl kF_X5_41 (dk DX5_readFirst_0 54 rfl) ?_
        refine lv_if_ne (tgt := 154) X.x X.b (dk DX5_readFirst_0 55 rfl) (by decide) (fun c66 => ?_) (fun c66 => ?_)
        · replace hF := if_f hF c66
          cases sm hF
          exact mr_vret X hr hlk hH rfl (dk DX5_readFirst_1 0 rfl)
        · replace hF := if_t hF c66
          refine lv_aload_n X.x X.b (dk DX5_readFirst_0 56 rfl) rfl (lv_at hl 0 rfl) ?_
          obtain ⟨x67, e68, hF⟩ := bd hF
          refine mr_cv0 hH ⟨rfl, rfl⟩ (mr_runV (As := []) (rest := []) X hH (c_X5_step hq hq_mk (oap_sub ha [0, 1] rfl rfl) lk_mk e68) ((oset_at hq (Nat.le_refl _) ohas_N).trans (congrArg some ocell_N)) OX5.1 kM_X5_50 kI_X5_step kS_X5_step kN_X5 kC_X5_step hd_X5_step ⟨Nat.le_of_ble_eq_true rfl, Nat.le_of_ble_eq_true rfl⟩ rfl hl.1 (Nat.le_of_ble_eq_true rfl) (dk DX5_readFirst_0 57 rfl) ⟨Nat.zero_le _, Nat.zero_le _⟩) (fun h1 H locs hp hH => ?_)
          rw [hp] at hH; clear hp
          refine lv_aload_n X.x X.b (dk DX5_readFirst_0 58 rfl) rfl (lv_at hl 0 rfl) ?_
          obtain ⟨x70, e71, hF⟩ := bd hF
          refine mr_cv0 hH ⟨rfl, rfl⟩ (mr_runV (As := []) (rest := []) X hH (c_X5_readStop hq hq_mk (oap_sub ha [0, 1] rfl rfl) lk_mk e71) ((oset_at hq (Nat.le_refl _) ohas_N).trans (congrArg some ocell_N)) OX5.1 kM_X5_85 kI_X5_readStop kS_X5_readStop kN_X5 kC_X5_readStop hd_X5_readStop ⟨Nat.le_of_ble_eq_true rfl, Nat.le_of_ble_eq_true rfl⟩ rfl hl.1 (Nat.le_of_ble_eq_true rfl) (dk DX5_readFirst_0 59 rfl) ⟨Nat.zero_le _, Nat.zero_le _⟩) (fun h1 H locs hp hH => ?_)
          rw [hp] at hH; clear hp
          cases sm hF
          exact mr_vret X hr hlk hH rfl (dk DX5_readFirst_1 0 rfl)
      · replace hF := if_f hF c62
        by_cases c73 : st.1 4 = 8
        · refine lv_tableIn (tgt := 112) X.x X.b (dk DX5_readFirst_0 2 rfl) (by rw [c73]; decide) (by rw [c73]; decide) (by rw [c73]; rfl) (by decide) ?_
          replace hF := if_t hF c73
          refine lv_aload_n X.x X.b (dk DX5_readFirst_0 40 rfl) rfl (lv_at hl 0 rfl) ?_
          refine og_getR (t := 4) OX5 X hq hH 0 (by decide) rfl kF_X5_12 (dk DX5_readFirst_0 41 rfl) ?_
          rw [lk_mk]
          refine lv_aload_n X.x X.b (dk DX5_readFirst_0 42 rfl) rfl (lv_at hl 1 rfl) ?_
          obtain ⟨x74, e75, hF⟩ := bd hF
          refine mr_cv0 (mH_perm (l1 := [(LX5, q, st), (LX3, q_mk, st_mk), (LX10, q1, st1)]) (l2 := [(LX3, q_mk, st_mk), (LX10, q1, st1), (LX5, q, st)]) ha [1, 2, 0] [2, 0, 1] rfl rfl rfl hH) ⟨rfl, rfl⟩ (mr_runV (As := [.ref (q1 5)]) (rest := []) X (mH_perm (l1 := [(LX5, q, st), (LX3, q_mk, st_mk), (LX10, q1, st1)]) (l2 := [(LX3, q_mk, st_mk), (LX10, q1, st1), (LX5, q, st)]) ha [1, 2, 0] [2, 0, 1] rfl rfl rfl hH) (c_X3_makeSixes hq_mk hq1 (oap_sub ha [1, 2] rfl rfl) e75) ((oset_at hq_mk (Nat.le_refl _) ohas_N).trans (congrArg some ocell_N)) OX3.1 kM_X5_76 kI_X3_makeSixes kS_X3_makeSixes kN_X3 kC_X3_makeSixes hd_X3_makeSixes ⟨Nat.le_of_ble_eq_true rfl, Nat.le_of_ble_eq_true rfl⟩ rfl hl.1 (Nat.le_of_ble_eq_true rfl) (dk DX5_readFirst_0 43 rfl) ⟨Nat.zero_le _, Nat.zero_le _⟩) (fun h1 H locs hp hH => ?_)
          rw [hp] at hH; clear hp
          replace hH : mH G (oset LX5 G q st (oset LX3 G q_mk st_mk (oset LX10 G q1 x74 h))) s.heap H locs := mH_unperm (l1 := [(LX5, q, st), (LX3, q_mk, st_mk), (LX10, q1, x74)]) (l2 := [(LX3, q_mk, st_mk), (LX10, q1, x74), (LX5, q, st)]) ha [1, 2, 0] [2, 0, 1] rfl rfl rfl hH
          refine lv_goto (tgt := 139) X.x X.b (dk DX5_readFirst_0 44 rfl) (by decide) ?_
          refine lv_aload_n X.x X.b (dk DX5_readFirst_0 53 rfl) rfl (lv_at hl 0 rfl) ?_
          refine og_getI OX5 X hq hH 8 (by decide) rfl kF_X5_41 (dk DX5_readFirst_0 54 rfl) ?_
          refine lv_if_ne (tgt := 154) X.x X.b (dk DX5_readFirst_0 55 rfl) (by decide) (fun c77 => ?_) (fun c77 => ?_)
          · replace hF := if_f hF c77
            cases sm hF
            exact mr_vret X hr hlk hH rfl (dk DX5_readFirst_1 0 rfl)
          · replace hF := if_t hF c77
            refine lv_aload_n X.x X.b (dk DX5_readFirst_0 56 rfl) rfl (lv_at hl 0 rfl) ?_
            obtain ⟨x78, e79, hF⟩ := bd hF
            refine mr_cv0 hH ⟨rfl, rfl⟩ (mr_runV (As := []) (rest := []) X hH (c_X5_step hq hq_mk (oap_sub ha [0, 1] rfl rfl) lk_mk e79) ((oset_at hq (Nat.le_refl _) ohas_N).trans (congrArg some ocell_N)) OX5.1 kM_X5_50 kI_X5_step kS_X5_step kN_X5 kC_X5_step hd_X5_step ⟨Nat.le_of_ble_eq_true rfl, Nat.le_of_ble_eq_true rfl⟩ rfl hl.1 (Nat.le_of_ble_eq_true rfl) (dk DX5_readFirst_0 57 rfl) ⟨Nat.zero_le _, Nat.zero_le _⟩) (fun h1 H locs hp hH => ?_)
            rw [hp] at hH; clear hp
            refine lv_aload_n X.x X.b (dk DX5_readFirst_0 58 rfl) rfl (lv_at hl 0 rfl) ?_
            obtain ⟨x81, e82, hF⟩ := bd hF
            refine mr_cv0 hH ⟨rfl, rfl⟩ (mr_runV (As := []) (rest := []) X hH (c_X5_readStop hq hq_mk (oap_sub ha [0, 1] rfl rfl) lk_mk e82) ((oset_at hq (Nat.le_refl _) ohas_N).trans (congrArg some ocell_N)) OX5.1 kM_X5_85 kI_X5_readStop kS_X5_readStop kN_X5 kC_X5_readStop hd_X5_readStop ⟨Nat.le_of_ble_eq_true rfl, Nat.le_of_ble_eq_true rfl⟩ rfl hl.1 (Nat.le_of_ble_eq_true rfl) (dk DX5_readFirst_0 59 rfl) ⟨Nat.zero_le _, Nat.zero_le _⟩) (fun h1 H locs hp hH => ?_)
            rw [hp] at hH; clear hp
            cases sm hF
            exact mr_vret X hr hlk hH rfl (dk DX5_readFirst_1 0 rfl)
        · replace hF := if_f hF c73
          by_cases c84 : st.1 4 = 9
          · refine lv_tableIn (tgt := 123) X.x X.b (dk DX5_readFirst_0 2 rfl) (by rw [c84]; decide) (by rw [c84]; decide) (by rw [c84]; rfl) (by decide) ?_
            replace hF := if_t hF c84
            refine lv_aload_n X.x X.b (dk DX5_readFirst_0 45 rfl) rfl (lv_at hl 0 rfl) ?_
            refine og_getR (t := 4) OX5 X hq hH 0 (by decide) rfl kF_X5_12 (dk DX5_readFirst_0 46 rfl) ?_
            rw [lk_mk]
            refine lv_aload_n X.x X.b (dk DX5_readFirst_0 47 rfl) rfl (lv_at hl 1 rfl) ?_
            obtain ⟨x85, e86, hF⟩ := bd hF
            refine mr_cv0 (mH_perm (l1 := [(LX5, q, st), (LX3, q_mk, st_mk), (LX10, q1, st1)]) (l2 := [(LX3, q_mk, st_mk), (LX10, q1, st1), (LX5, q, st)]) ha [1, 2, 0] [2, 0, 1] rfl rfl rfl hH) ⟨rfl, rfl⟩ (mr_runV (As := [.ref (q1 5)]) (rest := []) X (mH_perm (l1 := [(LX5, q, st), (LX3, q_mk, st_mk), (LX10, q1, st1)]) (l2 := [(LX3, q_mk, st_mk), (LX10, q1, st1), (LX5, q, st)]) ha [1, 2, 0] [2, 0, 1] rfl rfl rfl hH) (c_X3_makeThrees hq_mk hq1 (oap_sub ha [1, 2] rfl rfl) e86) ((oset_at hq_mk (Nat.le_refl _) ohas_N).trans (congrArg some ocell_N)) OX3.1 kM_X5_79 kI_X3_makeThrees kS_X3_makeThrees kN_X3 kC_X3_makeThrees hd_X3_makeThrees ⟨Nat.le_of_ble_eq_true rfl, Nat.le_of_ble_eq_true rfl⟩ rfl hl.1 (Nat.le_of_ble_eq_true rfl) (dk DX5_readFirst_0 48 rfl) ⟨Nat.zero_le _, Nat.zero_le _⟩) (fun h1 H locs hp hH => ?_)
            rw [hp] at hH; clear hp
            replace hH : mH G (oset LX5 G q st (oset LX3 G q_mk st_mk (oset LX10 G q1 x85 h))) s.heap H locs := mH_unperm (l1 := [(LX5, q, st), (LX3, q_mk, st_mk), (LX10, q1, x85)]) (l2 := [(LX3, q_mk, st_mk), (LX10, q1, x85), (LX5, q, st)]) ha [1, 2, 0] [2, 0, 1] rfl rfl rfl hH
            refine lv_goto (tgt := 139) X.x X.b (dk DX5_readFirst_0 49 rfl) (by decide) ?_
            refine lv_aload_n X.x X.b (dk DX5_readFirst_0 53 rfl) rfl (lv_at hl 0 rfl) ?_
            refine og_getI OX5 X hq hH 8 (by decide) rfl kF_X5_41 (dk DX5_readFirst_0 54 rfl) ?_
            refine lv_if_ne (tgt := 154) X.x X.b (dk DX5_readFirst_0 55 rfl) (by decide) (fun c88 => ?_) (fun c88 => ?_)
            · replace hF := if_f hF c88
              cases sm hF
              exact mr_vret X hr hlk hH rfl (dk DX5_readFirst_1 0 rfl)
            · replace hF := if_t hF c88
              refine lv_aload_n X.x X.b (dk DX5_readFirst_0 56 rfl) rfl (lv_at hl 0 rfl) ?_
              obtain ⟨x89, e90, hF⟩ := bd hF
              refine mr_cv0 hH ⟨rfl, rfl⟩ (mr_runV (As := []) (rest := []) X hH (c_X5_step hq hq_mk (oap_sub ha [0, 1] rfl rfl) lk_mk e90) ((oset_at hq (Nat.le_refl _) ohas_N).trans (congrArg some ocell_N)) OX5.1 kM_X5_50 kI_X5_step kS_X5_step kN_X5 kC_X5_step hd_X5_step ⟨Nat.le_of_ble_eq_true rfl, Nat.le_of_ble_eq_true rfl⟩ rfl hl.1 (Nat.le_of_ble_eq_true rfl) (dk DX5_readFirst_0 57 rfl) ⟨Nat.zero_le _, Nat.zero_le _⟩) (fun h1 H locs hp hH => ?_)
              rw [hp] at hH; clear hp
              refine lv_aload_n X.x X.b (dk DX5_readFirst_0 58 rfl) rfl (lv_at hl 0 rfl) ?_
              obtain ⟨x92, e93, hF⟩ := bd hF
              refine mr_cv0 hH ⟨rfl, rfl⟩ (mr_runV (As := []) (rest := []) X hH (c_X5_readStop hq hq_mk (oap_sub ha [0, 1] rfl rfl) lk_mk e93) ((oset_at hq (Nat.le_refl _) ohas_N).trans (congrArg some ocell_N)) OX5.1 kM_X5_85 kI_X5_readStop kS_X5_readStop kN_X5 kC_X5_readStop hd_X5_readStop ⟨Nat.le_of_ble_eq_true rfl, Nat.le_of_ble_eq_true rfl⟩ rfl hl.1 (Nat.le_of_ble_eq_true rfl) (dk DX5_readFirst_0 59 rfl) ⟨Nat.zero_le _, Nat.zero_le _⟩) (fun h1 H locs hp hH => ?_)
              rw [hp] at hH; clear hp
              cases sm hF
              exact mr_vret X hr hlk hH rfl (dk DX5_readFirst_1 0 rfl)
          · replace hF := if_f hF c84
            refine lv_tableOut (tgt := 134) X.x X.b (dk DX5_readFirst_0 2 rfl) (by have := lv_neT (k := 5) (a := 5) c1 (by decide); have := lv_neT (k := 6) (a := 6) c16 (by decide); have := lv_neT (k := 7) (a := 7) c62 (by decide); have := lv_neT (k := 8) (a := 8) c73 (by decide); have := lv_neT (k := 9) (a := 9) c84 (by decide); omega) (by decide) ?_
            refine lv_aload_n X.x X.b (dk DX5_readFirst_0 50 rfl) rfl (lv_at hl 0 rfl) ?_
            refine lv_iconst (v := 2) X.x X.b (dk DX5_readFirst_0 51 rfl) (by decide) ?_
            obtain ⟨x95, e96, hF⟩ := bd hF
            refine mr_cv0 hH ⟨rfl, rfl⟩ (mr_runV (As := [.int 2]) (rest := []) X hH (c_X5_refuse hq hq_mk (oap_sub ha [0, 1] rfl rfl) lk_mk e96) ((oset_at hq (Nat.le_refl _) ohas_N).trans (congrArg some ocell_N)) OX5.1 kM_X5_82 kI_X5_refuse kS_X5_refuse kN_X5 kC_X5_refuse hd_X5_refuse ⟨Nat.le_of_ble_eq_true rfl, Nat.le_of_ble_eq_true rfl⟩ rfl hl.1 (Nat.le_of_ble_eq_true rfl) (dk DX5_readFirst_0 52 rfl) ⟨Nat.zero_le _, Nat.zero_le _⟩) (fun h1 H locs hp hH => ?_)
            rw [hp] at hH; clear hp
            refine lv_aload_n X.x X.b (dk DX5_readFirst_0 53 rfl) rfl (lv_at hl 0 rfl) ?_
            refine og_getI OX5 X hq hH 8 (by decide) rfl kF_X5_41 (dk DX5_readFirst_0 54 rfl) ?_
            refine lv_if_ne (tgt := 154) X.x X.b (dk DX5_readFirst_0 55 rfl) (by decide) (fun c98 => ?_) (fun c98 => ?_)
            · replace hF := if_f hF c98
              cases sm hF
              exact mr_vret X hr hlk hH rfl (dk DX5_readFirst_1 0 rfl)
            · replace hF := if_t hF c98
              refine lv_aload_n X.x X.b (dk DX5_readFirst_0 56 rfl) rfl (lv_at hl 0 rfl) ?_
              obtain ⟨x99, e100, hF⟩ := bd hF
              refine mr_cv0 hH ⟨rfl, rfl⟩ (mr_runV (As := []) (rest := []) X hH (c_X5_step hq hq_mk (oap_sub ha [0, 1] rfl rfl) lk_mk e100) ((oset_at hq (Nat.le_refl _) ohas_N).trans (congrArg some ocell_N)) OX5.1 kM_X5_50 kI_X5_step kS_X5_step kN_X5 kC_X5_step hd_X5_step ⟨Nat.le_of_ble_eq_true rfl, Nat.le_of_ble_eq_true rfl⟩ rfl hl.1 (Nat.le_of_ble_eq_true rfl) (dk DX5_readFirst_0 57 rfl) ⟨Nat.zero_le _, Nat.zero_le _⟩) (fun h1 H locs hp hH => ?_)
              rw [hp] at hH; clear hp
              refine lv_aload_n X.x X.b (dk DX5_readFirst_0 58 rfl) rfl (lv_at hl 0 rfl) ?_
              obtain ⟨x102, e103, hF⟩ := bd hF
              refine mr_cv0 hH ⟨rfl, rfl⟩ (mr_runV (As := []) (rest := []) X hH (c_X5_readStop hq hq_mk (oap_sub ha [0, 1] rfl rfl) lk_mk e103) ((oset_at hq (Nat.le_refl _) ohas_N).trans (congrArg some ocell_N)) OX5.1 kM_X5_85 kI_X5_readStop kS_X5_readStop kN_X5 kC_X5_readStop hd_X5_readStop ⟨Nat.le_of_ble_eq_true rfl, Nat.le_of_ble_eq_true rfl⟩ rfl hl.1 (Nat.le_of_ble_eq_true rfl) (dk DX5_readFirst_0 59 rfl) ⟨Nat.zero_le _, Nat.zero_le _⟩) (fun h1 H locs hp hH => ?_)
              rw [hp] at hH; clear hp
              cases sm hF
              exact mr_vret X hr hlk hH rfl (dk DX5_readFirst_1 0 rfl)
-- X10_hasPoint
abbrev rm_X10_hasPoint : Room := { frames := 0, cells := 0, slots := 0, locals := 0 }
theorem hd_X10_hasPoint : mHd yX10_hasPoint 1 := ⟨by decide +kernel, by decide +kernel, by decide +kernel⟩
theorem DX10_hasPoint_0 : ∀ t ∈ ([(0, .iload_n 1, 1), (1, .ifCond .lt 15, 3), (4, .iload_n 1, 1), (5, .aload_n 0, 1), (6, .getfield 29, 3), (9, .if_icmp .ge 7, 3), (12, .iconst 1, 1), (13, .goto 4, 3), (16, .iconst 0, 1), (17, .ireturn, 1)] : List (Nat × Instr × Nat)), decode cX10_hasPoint t.1 = .ok (t.2.1, t.2.2) := by decide +kernel
noncomputable def f_X10_hasPoint (st : OS) (a0 : Int32) : Option (Int32) := (if a0 < 0 then some 0 else (if (st.1 0) ≤ a0 then some 0 else some 1))
set_option maxHeartbeats 4000000 in
set_option maxRecDepth 100000 in
theorem c_X10_hasPoint {l : Launch} {G : mG} {h : mM} {q : Nat → Nat} (hq : oinj LX10 q) {st : OS} {a0 : Int32} {x : Int32} (hF : f_X10_hasPoint st a0 = some x) : cQ l G yX10_hasPoint cX10_hasPoint 2 (some FieldType.boolean) rm_X10_hasPoint [.ref (q 5), .int a0] (oset LX10 G q st h) (mQi G (fun r h1 => r = x ∧ h1 = oset LX10 G q st h)) := by
  refine mp_of (by decide +kernel) (Nat.le_of_ble_eq_true rfl) ?_
  intro p e s m below meth c X hr hlk hH hname ls hl
  dsimp only [f_X10_hasPoint] at hF
  replace hl : lv_has ls 2 [(0, .ref (q 5)), (1, .int a0)] := hl
  refine lv_iload_n X.x X.b (dk DX10_hasPoint_0 0 rfl) rfl (lv_at hl 1 rfl) ?_
  refine lv_if_lt (tgt := 16) X.x X.b (dk DX10_hasPoint_0 1 rfl) (by decide) (fun c1 => ?_) (fun c1 => ?_)
  · replace hF := if_t hF c1
    refine lv_iconst (v := 0) X.x X.b (dk DX10_hasPoint_0 8 rfl) (by decide) ?_
    cases sm hF
    exact mr_zret X hr hlk hH rfl ⟨rfl, rfl⟩ (dk DX10_hasPoint_0 9 rfl)
  · replace hF := if_f hF c1
    refine lv_iload_n X.x X.b (dk DX10_hasPoint_0 2 rfl) rfl (lv_at hl 1 rfl) ?_
    refine lv_aload_n X.x X.b (dk DX10_hasPoint_0 3 rfl) rfl (lv_at hl 0 rfl) ?_
    refine og_getI OX10 X hq hH 0 (by decide) rfl kF_X10_29 (dk DX10_hasPoint_0 4 rfl) ?_
    refine lv_icmp_ge (tgt := 16) X.x X.b (dk DX10_hasPoint_0 5 rfl) (by decide) (fun c2 => ?_) (fun c2 => ?_)
    · replace hF := if_t hF c2
      refine lv_iconst (v := 0) X.x X.b (dk DX10_hasPoint_0 8 rfl) (by decide) ?_
      cases sm hF
      exact mr_zret X hr hlk hH rfl ⟨rfl, rfl⟩ (dk DX10_hasPoint_0 9 rfl)
    · replace hF := if_f hF c2
      refine lv_iconst (v := 1) X.x X.b (dk DX10_hasPoint_0 6 rfl) (by decide) ?_
      refine lv_goto (tgt := 17) X.x X.b (dk DX10_hasPoint_0 7 rfl) (by decide) ?_
      cases sm hF
      exact mr_zret X hr hlk hH rfl ⟨rfl, rfl⟩ (dk DX10_hasPoint_0 9 rfl)
-- X5_readLine
abbrev rm_X5_readLine : Room := { frames := 8, cells := 0, slots := 0, locals := 168 }
theorem hd_X5_readLine : mHd yX5_readLine 1 := ⟨by decide +kernel, by decide +kernel, by decide +kernel⟩
theorem DX5_readLine_0 : ∀ t ∈ ([(0, .aload_n 0, 1), (1, .getfield 53, 3), (4, .bipush 10, 2), (6, .if_icmp .eq 9, 3), (9, .aload_n 0, 1), (10, .iconst 2, 1), (11, .invokevirtual 82, 3), (14, .return_, 1), (15, .aload_n 1, 1), (16, .getfield 91, 3), (19, .bipush 64, 2), (21, .if_icmp .lt 9, 3), (24, .aload_n 0, 1), (25, .iconst 4, 1), (26, .invokevirtual 82, 3), (29, .return_, 1), (30, .lconst 0, 1), (31, .lstore_n 2, 1), (32, .aload_n 0, 1), (33, .invokevirtual 50, 3), (36, .iconst 0, 1), (37, .istore 4, 2), (39, .iload 4, 2), (41, .bipush 64, 2), (43, .if_icmp .gt 58, 3), (46, .aload_n 0, 1), (47, .getfield 53, 3), (50, .iconst 2, 1), (51, .if_icmp .ne 50, 3), (54, .aload_n 1, 1), (55, .aload_n 0, 1), (56, .getfield 88, 3), (59, .invokevirtual 94, 3), (62, .ifCond .eq 14, 3), (65, .lload_n 2, 1), (66, .aload_n 0, 1), (67, .getfield 88, 3), (70, .invokestatic 98, 3), (73, .ifCond .eq 9, 3), (76, .aload_n 0, 1), (77, .iconst 3, 1), (78, .invokevirtual 82, 3), (81, .return_, 1), (82, .lload_n 2, 1), (83, .lconst 1, 1), (84, .aload_n 0, 1), (85, .getfield 88, 3), (88, .lshl, 1), (89, .lor, 1), (90, .lstore_n 2, 1), (91, .aload_n 0, 1), (92, .invokevirtual 50, 3), (95, .iinc 4 1, 3), (98, .goto (-59), 3), (101, .lload_n 2, 1), (102, .invokestatic 102, 3), (105, .iconst 2, 1), (106, .if_icmp .ge 9, 3), (109, .aload_n 0, 1), (110, .iconst 2, 1)] : List (Nat × Instr × Nat)), decode cX5_readLine t.1 = .ok (t.2.1, t.2.2) := by decide +kernel
theorem DX5_readLine_1 : ∀ t ∈ ([(111, .invokevirtual 82, 3), (114, .return_, 1), (115, .aload_n 1, 1), (116, .lload_n 2, 1), (117, .invokevirtual 108, 3), (120, .aload_n 0, 1), (121, .invokevirtual 85, 3), (124, .return_, 1)] : List (Nat × Instr × Nat)), decode cX5_readLine t.1 = .ok (t.2.1, t.2.2) := by decide +kernel
noncomputable def f_X5_readLine_39 (s_mk : OS) (s_o1 : OS) : (OS × Int64 × Int32) → Option ((OS × Int64 × Int32) ⊕ (Nat × OS × Int64)) := fun z => match z with | (s_t, b2, b4) => (if 64 < b4 then some (.inr ((1, s_t, b2))) else (if (s_t.1 4) = 2 then (f_X10_hasPoint s_o1 (s_t.1 5)).bind (fun x8 => (if x8 = 0 then some (.inr ((0, s_t, b2))) else (f_X10_has b2 (s_t.1 5)).bind (fun x12 => (if x12 = 0 then bnd (b2 ||| (((1 : Int64)) <<< ((s_t.1 5 : Int32).toInt64 &&& 63)) : Int64) (fun v16 => (f_X5_step s_t s_mk).bind (fun x18 => bnd (b4 + 1 : Int32) (fun v21 => some (.inl ((x18, v16, v21)))))) else some (.inr ((0, s_t, b2))))))) else some (.inr ((1, s_t, b2)))))
noncomputable def f_X5_readLine (st : OS) (st_mk : OS) (st1 : OS) : Option (OS × OS) := (if (st.1 4) = 10 then (if (st1.1 1) < 64 then (f_X5_step st st_mk).bind (fun x3 => (lpv (f_X5_readLine_39 st_mk st1) ((x3, 0, 0))).bind (fun x23 => match x23 with | (k27, t25, v26) => (if k27 = 0 then (f_X5_refuse t25 st_mk 3).bind (fun x28 => some ((x28, st1))) else (f_J13_bitCount_95d88 v26).bind (fun x31 => (if 2 ≤ x31 then (f_X10_append st1 v26).bind (fun x35 => (f_X5_readStop t25 st_mk).bind (fun x38 => some ((x38, x35)))) else (f_X5_refuse t25 st_mk 2).bind (fun x41 => some ((x41, st1)))))))) else (f_X5_refuse st st_mk 4).bind (fun x44 => some ((x44, st1)))) else (f_X5_refuse st st_mk 2).bind (fun x47 => some ((x47, st1))))
set_option maxHeartbeats 4000000 in
set_option maxRecDepth 100000 in
theorem w_X5_readLine_39 {p : Program} {l : Launch} {e : Env} {s : State} {m : MethodId} {args : Array Value} {below : List Frame} {meth : Method} {c : Code} {Q : State → Prop} {G : mG} {h : mM} {q : Nat → Nat} {q_mk : Nat → Nat} {q1 : Nat → Nat} (hq : oinj LX5 q) (hq_mk : oinj LX3 q_mk) (hq1 : oinj LX10 q1) (ha : oap [(LX5, q), (LX3, q_mk), (LX10, q1)]) (lk_mk : q 0 = q_mk 3) (X : mX G p m c cX5_readLine 5 s args RX5) (s_mk : OS) (s_o1 : OS) : ∀ (z : OS × Int64 × Int32) (r : Nat × OS × Int64), lpv (f_X5_readLine_39 s_mk s_o1) z = some r → ∀ (H : Heap) (locs : List Loc) (ls : Array Slot), mH G (oset LX5 G q z.1 (oset LX3 G q_mk s_mk (oset LX10 G q1 s_o1 h))) s.heap H locs → lv_has ls 5 [(0, .ref (q 10)), (1, .ref (q1 5)), (2, .long z.2.1), (4, .int z.2.2)] → (r.1 = 0 → ∀ (H : Heap) (locs : List Loc) (ls : Array Slot), mH G (oset LX5 G q r.2.1 (oset LX3 G q_mk s_mk (oset LX10 G q1 s_o1 h))) s.heap H locs → lv_has ls 5 [(0, .ref (q 10))] → W p l e rm_X5_readLine s m args below meth c H locs 0 0 Q (F0 m 76 ls [])) → (r.1 = 1 → ∀ (H : Heap) (locs : List Loc) (ls : Array Slot), mH G (oset LX5 G q r.2.1 (oset LX3 G q_mk s_mk (oset LX10 G q1 s_o1 h))) s.heap H locs → lv_has ls 5 [(0, .ref (q 10)), (1, .ref (q1 5)), (2, .long r.2.2)] → W p l e rm_X5_readLine s m args below meth c H locs 0 0 Q (F0 m 101 ls [])) → W p l e rm_X5_readLine s m args below meth c H locs 0 0 Q (F0 m 39 ls []) := by
  refine lpv_rec ?_
  intro z r x hF hx H locs ls hH hl K0 K1
  obtain ⟨s_t, b2, b4⟩ := z
  dsimp only [f_X5_readLine_39] at hF
  try dsimp only at hH hl
  refine lv_iload X.x X.b (dk DX5_readLine_0 22 rfl) (lv_at hl 3 rfl) ?_
  refine lv_bipush (v := 64) X.x X.b (dk DX5_readLine_0 23 rfl) (by decide) ?_
  refine lv_icmp_gt (tgt := 101) X.x X.b (dk DX5_readLine_0 24 rfl) (by decide) (fun c6 => ?_) (fun c6 => ?_)
  · replace hF := if_t hF c6
    have hr9 := lp_r hF hx
    subst hr9
    exact K1 rfl _ _ _ hH (lv_sub hl [0, 1, 2] rfl)
  · replace hF := if_f hF c6
    refine lv_aload_n X.x X.b (dk DX5_readLine_0 25 rfl) rfl (lv_at hl 0 rfl) ?_
    refine og_getI OX5 X hq hH 4 (by decide) rfl kF_X5_53 (dk DX5_readLine_0 26 rfl) ?_
    refine lv_iconst (v := 2) X.x X.b (dk DX5_readLine_0 27 rfl) (by decide) ?_
    refine lv_icmp_ne (tgt := 101) X.x X.b (dk DX5_readLine_0 28 rfl) (by decide) (fun c7 => ?_) (fun c7 => ?_)
    · replace hF := if_f hF c7
      have hr9 := lp_r hF hx
      subst hr9
      exact K1 rfl _ _ _ hH (lv_sub hl [0, 1, 2] rfl)
    · replace hF := if_t hF c7
      refine lv_aload_n X.x X.b (dk DX5_readLine_0 29 rfl) rfl (lv_at hl 1 rfl) ?_
      refine lv_aload_n X.x X.b (dk DX5_readLine_0 30 rfl) rfl (lv_at hl 0 rfl) ?_
      refine og_getI OX5 X hq hH 5 (by decide) rfl kF_X5_88 (dk DX5_readLine_0 31 rfl) ?_
      obtain ⟨x8, e9, hF⟩ := bd hF
      refine mr_ci0 (mH_perm (l1 := [(LX5, q, s_t), (LX3, q_mk, s_mk), (LX10, q1, s_o1)]) (l2 := [(LX10, q1, s_o1), (LX5, q, s_t), (LX3, q_mk, s_mk)]) ha [2, 0, 1] [1, 2, 0] rfl rfl rfl hH) ⟨rfl, rfl⟩ (mr_runV (As := [.int (s_t.1 5)]) (rest := []) X (mH_perm (l1 := [(LX5, q, s_t), (LX3, q_mk, s_mk), (LX10, q1, s_o1)]) (l2 := [(LX10, q1, s_o1), (LX5, q, s_t), (LX3, q_mk, s_mk)]) ha [2, 0, 1] [1, 2, 0] rfl rfl rfl hH) (c_X10_hasPoint hq1 e9) ((oset_at hq1 (Nat.le_refl _) ohas_N).trans (congrArg some ocell_N)) OX10.1 kM_X5_94 kI_X10_hasPoint kS_X10_hasPoint kN_X10 kC_X10_hasPoint hd_X10_hasPoint ⟨Nat.le_of_ble_eq_true rfl, Nat.le_of_ble_eq_true rfl⟩ rfl hl.1 (Nat.le_of_ble_eq_true rfl) (dk DX5_readLine_0 32 rfl) ⟨Nat.zero_le _, Nat.zero_le _⟩) (fun r h1 H locs hp hH => ?_)
      obtain ⟨hr1, hr2⟩ := hp; rw [hr1]; rw [hr2] at hH; clear hr1 hr2
      replace hH : mH G (oset LX5 G q s_t (oset LX3 G q_mk s_mk (oset LX10 G q1 s_o1 h))) s.heap H locs := mH_unperm (l1 := [(LX5, q, s_t), (LX3, q_mk, s_mk), (LX10, q1, s_o1)]) (l2 := [(LX10, q1, s_o1), (LX5, q, s_t), (LX3, q_mk, s_mk)]) ha [2, 0, 1] [1, 2, 0] rfl rfl rfl hH
      refine lv_if_eq (tgt := 76) X.x X.b (dk DX5_readLine_0 33 rfl) (by decide) (fun c11 => ?_) (fun c11 => ?_)
      · replace hF := if_t hF c11
        have hr9 := lp_r hF hx
        subst hr9
        exact K0 rfl _ _ _ hH (lv_sub hl [0] rfl)
      · replace hF := if_f hF c11
        refine lv_lload_n X.x X.b (dk DX5_readLine_0 34 rfl) rfl (lv_at hl 2 rfl) ?_
        refine lv_aload_n X.x X.b (dk DX5_readLine_0 35 rfl) rfl (lv_at hl 0 rfl) ?_
        refine og_getI OX5 X hq hH 5 (by decide) rfl kF_X5_88 (dk DX5_readLine_0 36 rfl) ?_
        obtain ⟨x12, e13, hF⟩ := bd hF
        refine mr_ci0 hH ⟨rfl, rfl⟩ (mr_runS (As := [.long b2, .int (s_t.1 5)]) (rest := []) X hH (c_X10_has e13) kM_X5_98 kT_X10_has kN_X10 kC_X10_has hd_X10_has ⟨Nat.le_of_ble_eq_true rfl, Nat.le_of_ble_eq_true rfl⟩ rfl hl.1 (Nat.le_of_ble_eq_true rfl) (dk DX5_readLine_0 37 rfl) ⟨Nat.zero_le _, Nat.zero_le _⟩) (fun r h1 H locs hp hH => ?_)
        obtain ⟨hr1, hr2⟩ := hp; rw [hr1]; rw [hr2] at hH; clear hr1 hr2
        refine lv_if_eq (tgt := 82) X.x X.b (dk DX5_readLine_0 38 rfl) (by decide) (fun c15 => ?_) (fun c15 => ?_)
        · replace hF := if_t hF c15
          refine lv_lload_n X.x X.b (dk DX5_readLine_0 43 rfl) rfl (lv_at hl 2 rfl) ?_
          refine lv_lconst (v := 1) X.x X.b (dk DX5_readLine_0 44 rfl) (by decide) ?_
          refine lv_aload_n X.x X.b (dk DX5_readLine_0 45 rfl) rfl (lv_at hl 0 rfl) ?_
          refine og_getI OX5 X hq hH 5 (by decide) rfl kF_X5_88 (dk DX5_readLine_0 46 rfl) ?_
          refine lv_lshl X.x X.b (dk DX5_readLine_0 47 rfl) rfl ?_
          refine lv_lor X.x X.b (dk DX5_readLine_0 48 rfl) ?_
          refine lv_topl (fun v16 e17 => ?_)
          replace hF := bnd_e hF e17
          refine lv_lstore_n (lv' := [(2, .long v16), (0, .ref (q 10)), (1, .ref (q1 5)), (4, .int b4)]) X.x X.b (dk DX5_readLine_0 49 rfl) rfl hl (by decide) rfl (fun ls hl => ?_)
          replace hl : lv_has ls 5 [(0, .ref (q 10)), (1, .ref (q1 5)), (2, .long v16), (4, .int b4)] := lv_sub hl [1, 2, 0, 3] rfl
          refine lv_aload_n X.x X.b (dk DX5_readLine_0 50 rfl) rfl (lv_at hl 0 rfl) ?_
          obtain ⟨x18, e19, hF⟩ := bd hF
          refine mr_cv0 hH ⟨rfl, rfl⟩ (mr_runV (As := []) (rest := []) X hH (c_X5_step hq hq_mk (oap_sub ha [0, 1] rfl rfl) lk_mk e19) ((oset_at hq (Nat.le_refl _) ohas_N).trans (congrArg some ocell_N)) OX5.1 kM_X5_50 kI_X5_step kS_X5_step kN_X5 kC_X5_step hd_X5_step ⟨Nat.le_of_ble_eq_true rfl, Nat.le_of_ble_eq_true rfl⟩ rfl hl.1 (Nat.le_of_ble_eq_true rfl) (dk DX5_readLine_0 51 rfl) ⟨Nat.zero_le _, Nat.zero_le _⟩) (fun h1 H locs hp hH => ?_)
          rw [hp] at hH; clear hp
          obtain ⟨v21, e22⟩ : ∃ y : Int32, y = b4 + 1 := ⟨_, rfl⟩
          replace hF := bnd_e hF e22
          refine lv_iinc (v := v21) (lv' := [(4, .int v21), (0, .ref (q 10)), (1, .ref (q1 5)), (2, .long v16)]) X.x X.b (dk DX5_readLine_0 52 rfl) hl (k := 3) rfl (by rw [e22]; rfl) (by decide) rfl (fun ls hl => ?_)
          replace hl : lv_has ls 5 [(0, .ref (q 10)), (1, .ref (q1 5)), (2, .long v16), (4, .int v21)] := lv_sub hl [1, 2, 3, 0] rfl
          refine lv_goto (tgt := 39) X.x X.b (dk DX5_readLine_0 53 rfl) (by decide) ?_
          exact (lp_l hF hx) _ _ _ hH (lv_sub hl [0, 1, 2, 3] rfl) K0 K1
        · replace hF := if_f hF c15
          have hr9 := lp_r hF hx
          subst hr9
          exact K0 rfl _ _ _ hH (lv_sub hl [0] rfl)
set_option maxHeartbeats 4000000 in
set_option maxRecDepth 100000 in
theorem c_X5_readLine {l : Launch} {G : mG} {h : mM} {q : Nat → Nat} {q_mk : Nat → Nat} {q1 : Nat → Nat} (hq : oinj LX5 q) (hq_mk : oinj LX3 q_mk) (hq1 : oinj LX10 q1) (ha : oap [(LX5, q), (LX3, q_mk), (LX10, q1)]) (lk_mk : q 0 = q_mk 3) {st : OS} {st_mk : OS} {st1 : OS} {x : OS × OS} (hF : f_X5_readLine st st_mk st1 = some x) : cQ l G yX5_readLine cX5_readLine 5 none rm_X5_readLine [.ref (q 10), .ref (q1 5)] (oset LX5 G q st (oset LX3 G q_mk st_mk (oset LX10 G q1 st1 h))) (mQv G (fun h1 => h1 = oset LX5 G q x.1 (oset LX3 G q_mk st_mk (oset LX10 G q1 x.2 h)))) := by
  refine mp_of (by decide +kernel) (Nat.le_of_ble_eq_true rfl) ?_
  intro p e s m below meth c X hr hlk hH hname ls hl
  dsimp only [f_X5_readLine] at hF
  replace hl : lv_has ls 5 [(0, .ref (q 10)), (1, .ref (q1 5))] := hl
  refine lv_aload_n X.x X.b (dk DX5_readLine_0 0 rfl) rfl (lv_at hl 0 rfl) ?_
  refine og_getI OX5 X hq hH 4 (by decide) rfl kF_X5_53 (dk DX5_readLine_0 1 rfl) ?_
  refine lv_bipush (v := 10) X.x X.b (dk DX5_readLine_0 2 rfl) (by decide) ?_
  refine lv_icmp_eq (tgt := 15) X.x X.b (dk DX5_readLine_0 3 rfl) (by decide) (fun c1 => ?_) (fun c1 => ?_)
  · replace hF := if_t hF c1
    refine lv_aload_n X.x X.b (dk DX5_readLine_0 8 rfl) rfl (lv_at hl 1 rfl) ?_
    refine og_getIN OX10 X hq1 (mH_perm (l1 := [(LX5, q, st), (LX3, q_mk, st_mk), (LX10, q1, st1)]) (l2 := [(LX10, q1, st1), (LX5, q, st), (LX3, q_mk, st_mk)]) ha [2, 0, 1] [1, 2, 0] rfl rfl rfl hH) 1 (by decide) rfl kFN_X5_91 (dk DX5_readLine_0 9 rfl) ?_
    refine lv_bipush (v := 64) X.x X.b (dk DX5_readLine_0 10 rfl) (by decide) ?_
    refine lv_icmp_lt (tgt := 30) X.x X.b (dk DX5_readLine_0 11 rfl) (by decide) (fun c2 => ?_) (fun c2 => ?_)
    · replace hF := if_t hF c2
      refine lv_lconst (v := 0) X.x X.b (dk DX5_readLine_0 16 rfl) (by decide) ?_
      refine lv_lstore_n (lv' := [(2, .long 0), (0, .ref (q 10)), (1, .ref (q1 5))]) X.x X.b (dk DX5_readLine_0 17 rfl) rfl hl (by decide) rfl (fun ls hl => ?_)
      replace hl : lv_has ls 5 [(0, .ref (q 10)), (1, .ref (q1 5)), (2, .long 0)] := lv_sub hl [1, 2, 0] rfl
      refine lv_aload_n X.x X.b (dk DX5_readLine_0 18 rfl) rfl (lv_at hl 0 rfl) ?_
      obtain ⟨x3, e4, hF⟩ := bd hF
      refine mr_cv0 hH ⟨rfl, rfl⟩ (mr_runV (As := []) (rest := []) X hH (c_X5_step hq hq_mk (oap_sub ha [0, 1] rfl rfl) lk_mk e4) ((oset_at hq (Nat.le_refl _) ohas_N).trans (congrArg some ocell_N)) OX5.1 kM_X5_50 kI_X5_step kS_X5_step kN_X5 kC_X5_step hd_X5_step ⟨Nat.le_of_ble_eq_true rfl, Nat.le_of_ble_eq_true rfl⟩ rfl hl.1 (Nat.le_of_ble_eq_true rfl) (dk DX5_readLine_0 19 rfl) ⟨Nat.zero_le _, Nat.zero_le _⟩) (fun h1 H locs hp hH => ?_)
      rw [hp] at hH; clear hp
      refine lv_iconst (v := 0) X.x X.b (dk DX5_readLine_0 20 rfl) (by decide) ?_
      refine lv_istore (lv' := [(4, .int 0), (0, .ref (q 10)), (1, .ref (q1 5)), (2, .long 0)]) X.x X.b (dk DX5_readLine_0 21 rfl) hl (by decide) rfl (fun ls hl => ?_)
      replace hl : lv_has ls 5 [(0, .ref (q 10)), (1, .ref (q1 5)), (2, .long 0), (4, .int 0)] := lv_sub hl [1, 2, 3, 0] rfl
      obtain ⟨x23, e24, hF⟩ := bd hF
      replace hl : lv_has ls 5 [(0, .ref (q 10)), (1, .ref (q1 5)), (2, .long 0), (4, .int 0)] := lv_sub hl [0, 1, 2, 3] rfl
      obtain ⟨k27, t25, v26⟩ := x23
      try dsimp only at hF
      refine w_X5_readLine_39 hq hq_mk hq1 ha lk_mk X st_mk st1 _ _ e24 _ _ _ hH hl (fun hk H locs ls hH hl => ?_) (fun hk H locs ls hH hl => ?_)
      · try dsimp only at hH hl
        try dsimp only at hk
        subst hk
        replace hF := if_t hF rfl
        refine lv_aload_n X.x X.b (dk DX5_readLine_0 39 rfl) rfl (lv_at hl 0 rfl) ?_
        refine lv_iconst (v := 3) X.x X.b (dk DX5_readLine_0 40 rfl) (by decide) ?_
        obtain ⟨x28, e29, hF⟩ := bd hF
        refine mr_cv0 hH ⟨rfl, rfl⟩ (mr_runV (As := [.int 3]) (rest := []) X hH (c_X5_refuse hq hq_mk (oap_sub ha [0, 1] rfl rfl) lk_mk e29) ((oset_at hq (Nat.le_refl _) ohas_N).trans (congrArg some ocell_N)) OX5.1 kM_X5_82 kI_X5_refuse kS_X5_refuse kN_X5 kC_X5_refuse hd_X5_refuse ⟨Nat.le_of_ble_eq_true rfl, Nat.le_of_ble_eq_true rfl⟩ rfl hl.1 (Nat.le_of_ble_eq_true rfl) (dk DX5_readLine_0 41 rfl) ⟨Nat.zero_le _, Nat.zero_le _⟩) (fun h1 H locs hp hH => ?_)
        rw [hp] at hH; clear hp
        cases sm hF
        exact mr_vret X hr hlk hH rfl (dk DX5_readLine_0 42 rfl)
      · try dsimp only at hH hl
        try dsimp only at hk
        subst hk
        replace hF := if_f hF (by decide)
        refine lv_lload_n X.x X.b (dk DX5_readLine_0 54 rfl) rfl (lv_at hl 2 rfl) ?_
        obtain ⟨x31, e32, hF⟩ := bd hF
        refine mr_ci0 hH ⟨rfl, rfl⟩ (mr_runS (As := [.long v26]) (rest := []) X hH (c_J13_bitCount_95d88 e32) kM_X5_102 kT_J13_bitCount_95d88 kN_J13 kC_J13_bitCount_95d88 hd_J13_bitCount_95d88 ⟨Nat.le_of_ble_eq_true rfl, Nat.le_of_ble_eq_true rfl⟩ rfl hl.1 (Nat.le_of_ble_eq_true rfl) (dk DX5_readLine_0 55 rfl) ⟨Nat.zero_le _, Nat.zero_le _⟩) (fun r h1 H locs hp hH => ?_)
        obtain ⟨hr1, hr2⟩ := hp; rw [hr1]; rw [hr2] at hH; clear hr1 hr2
        refine lv_iconst (v := 2) X.x X.b (dk DX5_readLine_0 56 rfl) (by decide) ?_
        refine lv_icmp_ge (tgt := 115) X.x X.b (dk DX5_readLine_0 57 rfl) (by decide) (fun c34 => ?_) (fun c34 => ?_)
        · replace hF := if_t hF c34
          refine lv_aload_n X.x X.b (dk DX5_readLine_1 2 rfl) rfl (lv_at hl 1 rfl) ?_
          refine lv_lload_n X.x X.b (dk DX5_readLine_1 3 rfl) rfl (lv_at hl 2 rfl) ?_
          obtain ⟨x35, e36, hF⟩ := bd hF
          refine mr_cv0 (mH_perm (l1 := [(LX5, q, t25), (LX3, q_mk, st_mk), (LX10, q1, st1)]) (l2 := [(LX10, q1, st1), (LX5, q, t25), (LX3, q_mk, st_mk)]) ha [2, 0, 1] [1, 2, 0] rfl rfl rfl hH) ⟨rfl, rfl⟩ (mr_runV (As := [.long v26]) (rest := []) X (mH_perm (l1 := [(LX5, q, t25), (LX3, q_mk, st_mk), (LX10, q1, st1)]) (l2 := [(LX10, q1, st1), (LX5, q, t25), (LX3, q_mk, st_mk)]) ha [2, 0, 1] [1, 2, 0] rfl rfl rfl hH) (c_X10_append hq1 e36) ((oset_at hq1 (Nat.le_refl _) ohas_N).trans (congrArg some ocell_N)) OX10.1 kM_X5_108 kI_X10_append kS_X10_append kN_X10 kC_X10_append hd_X10_append ⟨Nat.le_of_ble_eq_true rfl, Nat.le_of_ble_eq_true rfl⟩ rfl hl.1 (Nat.le_of_ble_eq_true rfl) (dk DX5_readLine_1 4 rfl) ⟨Nat.zero_le _, Nat.zero_le _⟩) (fun h1 H locs hp hH => ?_)
          rw [hp] at hH; clear hp
          replace hH : mH G (oset LX5 G q t25 (oset LX3 G q_mk st_mk (oset LX10 G q1 x35 h))) s.heap H locs := mH_unperm (l1 := [(LX5, q, t25), (LX3, q_mk, st_mk), (LX10, q1, x35)]) (l2 := [(LX10, q1, x35), (LX5, q, t25), (LX3, q_mk, st_mk)]) ha [2, 0, 1] [1, 2, 0] rfl rfl rfl hH
          refine lv_aload_n X.x X.b (dk DX5_readLine_1 5 rfl) rfl (lv_at hl 0 rfl) ?_
          obtain ⟨x38, e39, hF⟩ := bd hF
          refine mr_cv0 hH ⟨rfl, rfl⟩ (mr_runV (As := []) (rest := []) X hH (c_X5_readStop hq hq_mk (oap_sub ha [0, 1] rfl rfl) lk_mk e39) ((oset_at hq (Nat.le_refl _) ohas_N).trans (congrArg some ocell_N)) OX5.1 kM_X5_85 kI_X5_readStop kS_X5_readStop kN_X5 kC_X5_readStop hd_X5_readStop ⟨Nat.le_of_ble_eq_true rfl, Nat.le_of_ble_eq_true rfl⟩ rfl hl.1 (Nat.le_of_ble_eq_true rfl) (dk DX5_readLine_1 6 rfl) ⟨Nat.zero_le _, Nat.zero_le _⟩) (fun h1 H locs hp hH => ?_)
          rw [hp] at hH; clear hp
          cases sm hF
          exact mr_vret X hr hlk hH rfl (dk DX5_readLine_1 7 rfl)
        · replace hF := if_f hF c34
          refine lv_aload_n X.x X.b (dk DX5_readLine_0 58 rfl) rfl (lv_at hl 0 rfl) ?_
          refine lv_iconst (v := 2) X.x X.b (dk DX5_readLine_0 59 rfl) (by decide) ?_
          obtain ⟨x41, e42, hF⟩ := bd hF
          refine mr_cv0 hH ⟨rfl, rfl⟩ (mr_runV (As := [.int 2]) (rest := []) X hH (c_X5_refuse hq hq_mk (oap_sub ha [0, 1] rfl rfl) lk_mk e42) ((oset_at hq (Nat.le_refl _) ohas_N).trans (congrArg some ocell_N)) OX5.1 kM_X5_82 kI_X5_refuse kS_X5_refuse kN_X5 kC_X5_refuse hd_X5_refuse ⟨Nat.le_of_ble_eq_true rfl, Nat.le_of_ble_eq_true rfl⟩ rfl hl.1 (Nat.le_of_ble_eq_true rfl) (dk DX5_readLine_1 0 rfl) ⟨Nat.zero_le _, Nat.zero_le _⟩) (fun h1 H locs hp hH => ?_)
          rw [hp] at hH; clear hp
          cases sm hF
          exact mr_vret X hr hlk hH rfl (dk DX5_readLine_1 1 rfl)
    · replace hF := if_f hF c2
      refine lv_aload_n X.x X.b (dk DX5_readLine_0 12 rfl) rfl (lv_at hl 0 rfl) ?_
      refine lv_iconst (v := 4) X.x X.b (dk DX5_readLine_0 13 rfl) (by decide) ?_
      obtain ⟨x44, e45, hF⟩ := bd hF
      refine mr_cv0 hH ⟨rfl, rfl⟩ (mr_runV (As := [.int 4]) (rest := []) X hH (c_X5_refuse hq hq_mk (oap_sub ha [0, 1] rfl rfl) lk_mk e45) ((oset_at hq (Nat.le_refl _) ohas_N).trans (congrArg some ocell_N)) OX5.1 kM_X5_82 kI_X5_refuse kS_X5_refuse kN_X5 kC_X5_refuse hd_X5_refuse ⟨Nat.le_of_ble_eq_true rfl, Nat.le_of_ble_eq_true rfl⟩ rfl hl.1 (Nat.le_of_ble_eq_true rfl) (dk DX5_readLine_0 14 rfl) ⟨Nat.zero_le _, Nat.zero_le _⟩) (fun h1 H locs hp hH => ?_)
      rw [hp] at hH; clear hp
      cases sm hF
      exact mr_vret X hr hlk hH rfl (dk DX5_readLine_0 15 rfl)
  · replace hF := if_f hF c1
    refine lv_aload_n X.x X.b (dk DX5_readLine_0 4 rfl) rfl (lv_at hl 0 rfl) ?_
    refine lv_iconst (v := 2) X.x X.b (dk DX5_readLine_0 5 rfl) (by decide) ?_
    obtain ⟨x47, e48, hF⟩ := bd hF
    refine mr_cv0 hH ⟨rfl, rfl⟩ (mr_runV (As := [.int 2]) (rest := []) X hH (c_X5_refuse hq hq_mk (oap_sub ha [0, 1] rfl rfl) lk_mk e48) ((oset_at hq (Nat.le_refl _) ohas_N).trans (congrArg some ocell_N)) OX5.1 kM_X5_82 kI_X5_refuse kS_X5_refuse kN_X5 kC_X5_refuse hd_X5_refuse ⟨Nat.le_of_ble_eq_true rfl, Nat.le_of_ble_eq_true rfl⟩ rfl hl.1 (Nat.le_of_ble_eq_true rfl) (dk DX5_readLine_0 6 rfl) ⟨Nat.zero_le _, Nat.zero_le _⟩) (fun h1 H locs hp hH => ?_)
    rw [hp] at hH; clear hp
    cases sm hF
    exact mr_vret X hr hlk hH rfl (dk DX5_readLine_0 7 rfl)
