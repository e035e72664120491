-- X12_pair
abbrev rm_X12_pair : Room := { frames := 0, cells := 0, slots := 0, locals := 0 }
theorem hd_X12_pair : mHd yX12_pair 2 := ⟨by decide +kernel, by decide +kernel, by decide +kernel⟩
theorem DX12_pair_0 : ∀ t ∈ ([(0, .iconst 0, 1), (1, .istore_n 2, 1), (2, .iconst 0, 1), (3, .istore_n 3, 1), (4, .iload_n 3, 1), (5, .bipush 6, 2), (7, .if_icmp .ge 54, 3), (10, .iload_n 3, 1), (11, .iconst 1, 1), (12, .iadd, 1), (13, .istore 4, 2), (15, .iload 4, 2), (17, .bipush 6, 2), (19, .if_icmp .ge 36, 3), (22, .iload_n 3, 1), (23, .iload_n 0, 1), (24, .if_icmp .ne 9, 3), (27, .iload 4, 2), (29, .iload_n 1, 1), (30, .if_icmp .eq 14, 3), (33, .iload_n 3, 1), (34, .iload_n 1, 1), (35, .if_icmp .ne 11, 3), (38, .iload 4, 2), (40, .iload_n 0, 1), (41, .if_icmp .ne 5, 3), (44, .iload_n 2, 1), (45, .ireturn, 1), (46, .iinc 2 1, 3), (49, .iinc 4 1, 3), (52, .goto (-37), 3), (55, .iinc 3 1, 3), (58, .goto (-54), 3), (61, .iconst (-1), 1), (62, .ireturn, 1)] : List (Nat × Instr × Nat)), decode cX12_pair t.1 = .ok (t.2.1, t.2.2) := by decide +kernel
noncomputable def f_X12_pair_15 (b0 : Int32) (b1 : Int32) (b3 : Int32) : (Int32 × Int32) → Option ((Int32 × Int32) ⊕ (Nat × Int32)) := fun z => match z with | (b2, b4) => (if 6 ≤ b4 then some (.inr ((1, b2))) else (if b3 = b0 then (if b4 = b1 then some (.inr ((0, b2))) else (if b3 = b1 then (if b4 = b0 then some (.inr ((0, b2))) else bnd (b2 + 1 : Int32) (fun v23 => bnd (b4 + 1 : Int32) (fun v25 => some (.inl ((v23, v25)))))) else bnd (b2 + 1 : Int32) (fun v18 => bnd (b4 + 1 : Int32) (fun v20 => some (.inl ((v18, v20))))))) else (if b3 = b1 then (if b4 = b0 then some (.inr ((0, b2))) else bnd (b2 + 1 : Int32) (fun v12 => bnd (b4 + 1 : Int32) (fun v14 => some (.inl ((v12, v14)))))) else bnd (b2 + 1 : Int32) (fun v7 => bnd (b4 + 1 : Int32) (fun v9 => some (.inl ((v7, v9))))))))
noncomputable def f_X12_pair_4 (b0 : Int32) (b1 : Int32) : (Int32 × Int32) → Option ((Int32 × Int32) ⊕ (Nat × Int32)) := fun z => match z with | (b2, b3) => (if 6 ≤ b3 then some (.inr ((1, b2))) else bnd (b3 + 1 : Int32) (fun v2 => (lpv (f_X12_pair_15 b0 b1 b3) ((b2, v2))).bind (fun x27 => match x27 with | (k30, v29) => (if k30 = 0 then some (.inr ((0, v29))) else bnd (b3 + 1 : Int32) (fun v31 => some (.inl ((v29, v31))))))))
noncomputable def f_X12_pair (a0 : Int32) (a1 : Int32) : Option (Int32) := (lpv (f_X12_pair_4 a0 a1) ((0, 0))).bind (fun x33 => match x33 with | (k36, v35) => (if k36 = 0 then some v35 else some ((-1))))
set_option maxHeartbeats 4000000 in
set_option maxRecDepth 100000 in
theorem w_X12_pair_15 {p : Program} {l : Launch} {e : Env} {s : State} {m : MethodId} {args : Array Value} {below : List Frame} {meth : Method} {c : Code} {Q : State → Prop} {G : mG} {h : mM}  (X : mX G p m c cX12_pair 5 s args RX12) (b0 : Int32) (b1 : Int32) (b3 : Int32) : ∀ (z : Int32 × Int32) (r : Nat × Int32), lpv (f_X12_pair_15 b0 b1 b3) z = some r → ∀ (H : Heap) (locs : List Loc) (ls : Array Slot), mH G (h) s.heap H locs → lv_has ls 5 [(0, .int b0), (1, .int b1), (2, .int z.1), (3, .int b3), (4, .int z.2)] → (r.1 = 0 → ∀ (H : Heap) (locs : List Loc) (ls : Array Slot), mH G (h) s.heap H locs → lv_has ls 5 [(2, .int r.2)] → W p l e rm_X12_pair s m args below meth c H locs 0 0 Q (F0 m 44 ls [])) → (r.1 = 1 → ∀ (H : Heap) (locs : List Loc) (ls : Array Slot), mH G (h) s.heap H locs → lv_has ls 5 [(0, .int b0), (1, .int b1), (2, .int r.2), (3, .int b3)] → W p l e rm_X12_pair s m args below meth c H locs 0 0 Q (F0 m 55 ls [])) → W p l e rm_X12_pair s m args below meth c H locs 0 0 Q (F0 m 15 ls []) := by
  refine lpv_rec ?_
  intro z r x hF hx H locs ls hH hl K0 K1
  obtain ⟨b2, b4⟩ := z
  dsimp only [f_X12_pair_15] at hF
  try dsimp only at hH hl
  refine lv_iload X.x X.b (dk DX12_pair_0 11 rfl) (lv_at hl 4 rfl) ?_
  refine lv_bipush (v := 6) X.x X.b (dk DX12_pair_0 12 rfl) (by decide) ?_
  refine lv_icmp_ge (tgt := 55) X.x X.b (dk DX12_pair_0 13 rfl) (by decide) (fun c4 => ?_) (fun c4 => ?_)
  · replace hF := if_t hF c4
    have hr9 := lp_r hF hx
    subst hr9
    exact K1 rfl _ _ _ hH (lv_sub hl [0, 1, 2, 3] rfl)
  · replace hF := if_f hF c4
    refine lv_iload_n X.x X.b (dk DX12_pair_0 14 rfl) rfl (lv_at hl 3 rfl) ?_
    refine lv_iload_n X.x X.b (dk DX12_pair_0 15 rfl) rfl (lv_at hl 0 rfl) ?_
    refine lv_icmp_ne (tgt := 33) X.x X.b (dk DX12_pair_0 16 rfl) (by decide) (fun c5 => ?_) (fun c5 => ?_)
    · replace hF := if_f hF c5
      refine lv_iload_n X.x X.b (dk DX12_pair_0 20 rfl) rfl (lv_at hl 3 rfl) ?_
      refine lv_iload_n X.x X.b (dk DX12_pair_0 21 rfl) rfl (lv_at hl 1 rfl) ?_
      refine lv_icmp_ne (tgt := 46) X.x X.b (dk DX12_pair_0 22 rfl) (by decide) (fun c6 => ?_) (fun c6 => ?_)
      · replace hF := if_f hF c6
        obtain ⟨v7, e8⟩ : ∃ y : Int32, y = b2 + 1 := ⟨_, rfl⟩
        replace hF := bnd_e hF e8
        refine lv_iinc (v := v7) (lv' := [(2, .int v7), (0, .int b0), (1, .int b1), (3, .int b3), (4, .int b4)]) X.x X.b (dk DX12_pair_0 28 rfl) hl (k := 2) rfl (by rw [e8]; rfl) (by decide) rfl (fun ls hl => ?_)
        replace hl : lv_has ls 5 [(0, .int b0), (1, .int b1), (2, .int v7), (3, .int b3), (4, .int b4)] := lv_sub hl [1, 2, 0, 3, 4] rfl
        obtain ⟨v9, e10⟩ : ∃ y : Int32, y = b4 + 1 := ⟨_, rfl⟩
        replace hF := bnd_e hF e10
        refine lv_iinc (v := v9) (lv' := [(4, .int v9), (0, .int b0), (1, .int b1), (2, .int v7), (3, .int b3)]) X.x X.b (dk DX12_pair_0 29 rfl) hl (k := 4) rfl (by rw [e10]; rfl) (by decide) rfl (fun ls hl => ?_)
        replace hl : lv_has ls 5 [(0, .int b0), (1, .int b1), (2, .int v7), (3, .int b3), (4, .int v9)] := lv_sub hl [1, 2, 3, 4, 0] rfl
        refine lv_goto (tgt := 15) X.x X.b (dk DX12_pair_0 30 rfl) (by decide) ?_
        exact (lp_l hF hx) _ _ _ hH (lv_sub hl [0, 1, 2, 3, 4] rfl) K0 K1
      · replace hF := if_t hF c6
        refine lv_iload X.x X.b (dk DX12_pair_0 23 rfl) (lv_at hl 4 rfl) ?_
        refine lv_iload_n X.x X.b (dk DX12_pair_0 24 rfl) rfl (lv_at hl 0 rfl) ?_
        refine lv_icmp_ne (tgt := 46) X.x X.b (dk DX12_pair_0 25 rfl) (by decide) (fun c11 => ?_) (fun c11 => ?_)
        · replace hF := if_f hF c11
          obtain ⟨v12, e13⟩ : ∃ y : Int32, y = b2 + 1 := ⟨_, rfl⟩
          replace hF := bnd_e hF e13
          refine lv_iinc (v := v12) (lv' := [(2, .int v12), (0, .int b0), (1, .int b1), (3, .int b3), (4, .int b4)]) X.x X.b (dk DX12_pair_0 28 rfl) hl (k := 2) rfl (by rw [e13]; rfl) (by decide) rfl (fun ls hl => ?_)
          replace hl : lv_has ls 5 [(0, .int b0), (1, .int b1), (2, .int v12), (3, .int b3), (4, .int b4)] := lv_sub hl [1, 2, 0, 3, 4] rfl
          obtain ⟨v14, e15⟩ : ∃ y : Int32, y = b4 + 1 := ⟨_, rfl⟩
          replace hF := bnd_e hF e15
          refine lv_iinc (v := v14) (lv' := [(4, .int v14), (0, .int b0), (1, .int b1), (2, .int v12), (3, .int b3)]) X.x X.b (dk DX12_pair_0 29 rfl) hl (k := 4) rfl (by rw [e15]; rfl) (by decide) rfl (fun ls hl => ?_)
          replace hl : lv_has ls 5 [(0, .int b0), (1, .int b1), (2, .int v12), (3, .int b3), (4, .int v14)] := lv_sub hl [1, 2, 3, 4, 0] rfl
          refine lv_goto (tgt := 15) X.x X.b (dk DX12_pair_0 30 rfl) (by decide) ?_
          exact (lp_l hF hx) _ _ _ hH (lv_sub hl [0, 1, 2, 3, 4] rfl) K0 K1
        · replace hF := if_t hF c11
          have hr9 := lp_r hF hx
          subst hr9
          exact K0 rfl _ _ _ hH (lv_sub hl [2] rfl)
    · replace hF := if_t hF c5
      refine lv_iload X.x X.b (dk DX12_pair_0 17 rfl) (lv_at hl 4 rfl) ?_
      refine lv_iload_n X.x X.b (dk DX12_pair_0 18 rfl) rfl (lv_at hl 1 rfl) ?_
      refine lv_icmp_eq (tgt := 44) X.x X.b (dk DX12_pair_0 19 rfl) (by decide) (fun c16 => ?_) (fun c16 => ?_)
      · replace hF := if_t hF c16
        have hr9 := lp_r hF hx
        subst hr9
        exact K0 rfl _ _ _ hH (lv_sub hl [2] rfl)
      · replace hF := if_f hF c16
        refine lv_iload_n X.x X.b (dk DX12_pair_0 20 rfl) rfl (lv_at hl 3 rfl) ?_
        refine lv_iload_n X.x X.b (dk DX12_pair_0 21 rfl) rfl (lv_at hl 1 rfl) ?_
        refine lv_icmp_ne (tgt := 46) X.x X.b (dk DX12_pair_0 22 rfl) (by decide) (fun c17 => ?_) (fun c17 => ?_)
        · replace hF := if_f hF c17
          obtain ⟨v18, e19⟩ : ∃ y : Int32, y = b2 + 1 := ⟨_, rfl⟩
          replace hF := bnd_e hF e19
          refine lv_iinc (v := v18) (lv' := [(2, .int v18), (0, .int b0), (1, .int b1), (3, .int b3), (4, .int b4)]) X.x X.b (dk DX12_pair_0 28 rfl) hl (k := 2) rfl (by rw [e19]; rfl) (by decide) rfl (fun ls hl => ?_)
          replace hl : lv_has ls 5 [(0, .int b0), (1, .int b1), (2, .int v18), (3, .int b3), (4, .int b4)] := lv_sub hl [1, 2, 0, 3, 4] rfl
          obtain ⟨v20, e21⟩ : ∃ y : Int32, y = b4 + 1 := ⟨_, rfl⟩
          replace hF := bnd_e hF e21
          refine lv_iinc (v := v20) (lv' := [(4, .int v20), (0, .int b0), (1, .int b1), (2, .int v18), (3, .int b3)]) X.x X.b (dk DX12_pair_0 29 rfl) hl (k := 4) rfl (by rw [e21]; rfl) (by decide) rfl (fun ls hl => ?_)
          replace hl : lv_has ls 5 [(0, .int b0), (1, .int b1), (2, .int v18), (3, .int b3), (4, .int v20)] := lv_sub hl [1, 2, 3, 4, 0] rfl
          refine lv_goto (tgt := 15) X.x X.b (dk DX12_pair_0 30 rfl) (by decide) ?_
          exact (lp_l hF hx) _ _ _ hH (lv_sub hl [0, 1, 2, 3, 4] rfl) K0 K1
        · replace hF := if_t hF c17
          refine lv_iload X.x X.b (dk DX12_pair_0 23 rfl) (lv_at hl 4 rfl) ?_
          refine lv_iload_n X.x X.b (dk DX12_pair_0 24 rfl) rfl (lv_at hl 0 rfl) ?_
          refine lv_icmp_ne (tgt := 46) X.x X.b (dk DX12_pair_0 25 rfl) (by decide) (fun c22 => ?_) (fun c22 => ?_)
          · replace hF := if_f hF c22
            obtain ⟨v23, e24⟩ : ∃ y : Int32, y = b2 + 1 := ⟨_, rfl⟩
            replace hF := bnd_e hF e24
            refine lv_iinc (v := v23) (lv' := [(2, .int v23), (0, .int b0), (1, .int b1), (3, .int b3), (4, .int b4)]) X.x X.b (dk DX12_pair_0 28 rfl) hl (k := 2) rfl (by rw [e24]; rfl) (by decide) rfl (fun ls hl => ?_)
            replace hl : lv_has ls 5 [(0, .int b0), (1, .int b1), (2, .int v23), (3, .int b3), (4, .int b4)] := lv_sub hl [1, 2, 0, 3, 4] rfl
            obtain ⟨v25, e26⟩ : ∃ y : Int32, y = b4 + 1 := ⟨_, rfl⟩
            replace hF := bnd_e hF e26
            refine lv_iinc (v := v25) (lv' := [(4, .int v25), (0, .int b0), (1, .int b1), (2, .int v23), (3, .int b3)]) X.x X.b (dk DX12_pair_0 29 rfl) hl (k := 4) rfl (by rw [e26]; rfl) (by decide) rfl (fun ls hl => ?_)
            replace hl : lv_has ls 5 [(0, .int b0), (1, .int b1), (2, .int v23), (3, .int b3), (4, .int v25)] := lv_sub hl [1, 2, 3, 4, 0] rfl
            refine lv_goto (tgt := 15) X.x X.b (dk DX12_pair_0 30 rfl) (by decide) ?_
            exact (lp_l hF hx) _ _ _ hH (lv_sub hl [0, 1, 2, 3, 4] rfl) K0 K1
          · replace hF := if_t hF c22
            have hr9 := lp_r hF hx
            subst hr9
            exact K0 rfl _ _ _ hH (lv_sub hl [2] rfl)
set_option maxHeartbeats 4000000 in
set_option maxRecDepth 100000 in
theorem w_X12_pair_4 {p : Program} {l : Launch} {e : Env} {s : State} {m : MethodId} {args : Array Value} {below : List Frame} {meth : Method} {c : Code} {Q : State → Prop} {G : mG} {h : mM}  (X : mX G p m c cX12_pair 5 s args RX12) (b0 : Int32) (b1 : Int32) : ∀ (z : Int32 × Int32) (r : Nat × Int32), lpv (f_X12_pair_4 b0 b1) z = some r → ∀ (H : Heap) (locs : List Loc) (ls : Array Slot), mH G (h) s.heap H locs → lv_has ls 5 [(0, .int b0), (1, .int b1), (2, .int z.1), (3, .int z.2)] → (r.1 = 0 → ∀ (H : Heap) (locs : List Loc) (ls : Array Slot), mH G (h) s.heap H locs → lv_has ls 5 [(2, .int r.2)] → W p l e rm_X12_pair s m args below meth c H locs 0 0 Q (F0 m 44 ls [])) → (r.1 = 1 → ∀ (H : Heap) (locs : List Loc) (ls : Array Slot), mH G (h) s.heap H locs → lv_has ls 5 [] → W p l e rm_X12_pair s m args below meth c H locs 0 0 Q (F0 m 61 ls [])) → W p l e rm_X12_pair s m args below meth c H locs 0 0 Q (F0 m 4 ls []) := by
  refine lpv_rec ?_
  intro z r x hF hx H locs ls hH hl K0 K1
  obtain ⟨b2, b3⟩ := z
  dsimp only [f_X12_pair_4] at hF
  try dsimp only at hH hl
  refine lv_iload_n X.x X.b (dk DX12_pair_0 4 rfl) rfl (lv_at hl 3 rfl) ?_
  refine lv_bipush (v := 6) X.x X.b (dk DX12_pair_0 5 rfl) (by decide) ?_
  refine lv_icmp_ge (tgt := 61) X.x X.b (dk DX12_pair_0 6 rfl) (by decide) (fun c1 => ?_) (fun c1 => ?_)
  · replace hF := if_t hF c1
    have hr9 := lp_r hF hx
    subst hr9
    exact K1 rfl _ _ _ hH (lv_sub hl [] rfl)
  · replace hF := if_f hF c1
    refine lv_iload_n X.x X.b (dk DX12_pair_0 7 rfl) rfl (lv_at hl 3 rfl) ?_
    refine lv_iconst (v := 1) X.x X.b (dk DX12_pair_0 8 rfl) (by decide) ?_
    refine lv_iadd X.x X.b (dk DX12_pair_0 9 rfl) ?_
    refine lv_topi (fun v2 e3 => ?_)
    replace hF := bnd_e hF e3
    refine lv_istore (lv' := [(4, .int v2), (0, .int b0), (1, .int b1), (2, .int b2), (3, .int b3)]) X.x X.b (dk DX12_pair_0 10 rfl) hl (by decide) rfl (fun ls hl => ?_)
    replace hl : lv_has ls 5 [(0, .int b0), (1, .int b1), (2, .int b2), (3, .int b3), (4, .int v2)] := lv_sub hl [1, 2, 3, 4, 0] rfl
    obtain ⟨x27, e28, hF⟩ := bd hF
    replace hl : lv_has ls 5 [(0, .int b0), (1, .int b1), (2, .int b2), (3, .int b3), (4, .int v2)] := lv_sub hl [0, 1, 2, 3, 4] rfl
    obtain ⟨k30, v29⟩ := x27
    try dsimp only at hF
    refine w_X12_pair_15 X b0 b1 b3 _ _ e28 _ _ _ hH hl (fun hk H locs ls hH hl => ?_) (fun hk H locs ls hH hl => ?_)
    · try dsimp only at hH hl
      try dsimp only at hk
      subst hk
      replace hF := if_t hF rfl
      have hr9 := lp_r hF hx
      subst hr9
      exact K0 rfl _ _ _ hH (lv_sub hl [0] rfl)
    · try dsimp only at hH hl
      try dsimp only at hk
      subst hk
      replace hF := if_f hF (by decide)
      obtain ⟨v31, e32⟩ : ∃ y : Int32, y = b3 + 1 := ⟨_, rfl⟩
      replace hF := bnd_e hF e32
      refine lv_iinc (v := v31) (lv' := [(3, .int v31), (0, .int b0), (1, .int b1), (2, .int v29)]) X.x X.b (dk DX12_pair_0 31 rfl) hl (k := 3) rfl (by rw [e32]; rfl) (by decide) rfl (fun ls hl => ?_)
      replace hl : lv_has ls 5 [(0, .int b0), (1, .int b1), (2, .int v29), (3, .int v31)] := lv_sub hl [1, 2, 3, 0] rfl
      refine lv_goto (tgt := 4) X.x X.b (dk DX12_pair_0 32 rfl) (by decide) ?_
      exact (lp_l hF hx) _ _ _ hH (lv_sub hl [0, 1, 2, 3] rfl) K0 K1
set_option maxHeartbeats 4000000 in
set_option maxRecDepth 100000 in
theorem c_X12_pair {l : Launch} {G : mG} {h : mM}  {a0 : Int32} {a1 : Int32} {x : Int32} (hF : f_X12_pair a0 a1 = some x) : cQ l G yX12_pair cX12_pair 5 (some FieldType.int) rm_X12_pair [.int a0, .int a1] (h) (mQi G (fun r h1 => r = x ∧ h1 = h)) := by
  refine mp_of (by decide +kernel) (Nat.le_of_ble_eq_true rfl) ?_
  intro p e s m below meth c X hr hlk hH hname ls hl
  dsimp only [f_X12_pair] at hF
  replace hl : lv_has ls 5 [(0, .int a0), (1, .int a1)] := hl
  refine lv_iconst (v := 0) X.x X.b (dk DX12_pair_0 0 rfl) (by decide) ?_
  refine lv_istore_n (lv' := [(2, .int 0), (0, .int a0), (1, .int a1)]) X.x X.b (dk DX12_pair_0 1 rfl) rfl hl (by decide) rfl (fun ls hl => ?_)
  replace hl : lv_has ls 5 [(0, .int a0), (1, .int a1), (2, .int 0)] := lv_sub hl [1, 2, 0] rfl
  refine lv_iconst (v := 0) X.x X.b (dk DX12_pair_0 2 rfl) (by decide) ?_
  refine lv_istore_n (lv' := [(3, .int 0), (0, .int a0), (1, .int a1), (2, .int 0)]) X.x X.b (dk DX12_pair_0 3 rfl) rfl hl (by decide) rfl (fun ls hl => ?_)
  replace hl : lv_has ls 5 [(0, .int a0), (1, .int a1), (2, .int 0), (3, .int 0)] := lv_sub hl [1, 2, 3, 0] rfl
  obtain ⟨x33, e34, hF⟩ := bd hF
  replace hl : lv_has ls 5 [(0, .int a0), (1, .int a1), (2, .int 0), (3, .int 0)] := lv_sub hl [0, 1, 2, 3] rfl
  obtain ⟨k36, v35⟩ := x33
  try dsimp only at hF
  refine w_X12_pair_4 X a0 a1 _ _ e34 _ _ _ hH hl (fun hk H locs ls hH hl => ?_) (fun hk H locs ls hH hl => ?_)
  · try dsimp only at hH hl
    try dsimp only at hk
    subst hk
    replace hF := if_t hF rfl
    refine lv_iload_n X.x X.b (dk DX12_pair_0 26 rfl) rfl (lv_at hl 0 rfl) ?_
    cases sm hF
    exact mr_iret X hr hlk hH ⟨rfl, rfl⟩ (dk DX12_pair_0 27 rfl)
  · try dsimp only at hH hl
    try dsimp only at hk
    subst hk
    replace hF := if_f hF (by decide)
    refine lv_iconst (v := (-1)) X.x X.b (dk DX12_pair_0 33 rfl) (by decide) ?_
    cases sm hF
    exact mr_iret X hr hlk hH ⟨rfl, rfl⟩ (dk DX12_pair_0 34 rfl)
-- X12_duads
abbrev rm_X12_duads : Room := { frames := 1, cells := 0, slots := 0, locals := 24 }
theorem hd_X12_duads : mHd yX12_duads 1 := ⟨by decide +kernel, by decide +kernel, by decide +kernel⟩
theorem DX12_duads_0 : ∀ t ∈ ([(0, .iconst 1, 1), (1, .istore_n 2, 1), (2, .iload_n 2, 1), (3, .bipush 6, 2), (5, .if_icmp .ge 148, 3), (8, .iload_n 2, 1), (9, .iconst 1, 1), (10, .if_icmp .ne 7, 3), (13, .iconst 2, 1), (14, .goto 4, 3), (17, .iconst 1, 1), (18, .istore_n 3, 1), (19, .iload_n 3, 1), (20, .iconst 1, 1), (21, .iadd, 1), (22, .istore 4, 2), (24, .iload 4, 2), (26, .bipush 6, 2), (28, .if_icmp .ge 119, 3), (31, .iload 4, 2), (33, .iload_n 2, 1), (34, .if_icmp .ne 6, 3), (37, .goto 104, 3), (40, .bipush 63, 2), (42, .iconst 1, 1), (43, .iconst 1, 1), (44, .iload_n 2, 1), (45, .ishl, 1), (46, .ior, 1), (47, .iconst 1, 1), (48, .iload_n 3, 1), (49, .ishl, 1), (50, .ior, 1), (51, .iconst 1, 1), (52, .iload 4, 2), (54, .ishl, 1), (55, .ior, 1), (56, .iconst (-1), 1), (57, .ixor, 1), (58, .iand, 1), (59, .istore 5, 2), (61, .iconst 0, 1), (62, .istore 6, 2), (64, .iload 5, 2), (66, .iload 6, 2), (68, .ishr, 1), (69, .iconst 1, 1), (70, .iand, 1), (71, .ifCond .ne 9, 3), (74, .iinc 6 1, 3), (77, .goto (-13), 3), (80, .iload 6, 2), (82, .iconst 1, 1), (83, .iadd, 1), (84, .istore 7, 2), (86, .iload 5, 2), (88, .iload 7, 2), (90, .ishr, 1), (91, .iconst 1, 1), (92, .iand, 1)] : List (Nat × Instr × Nat)), decode cX12_duads t.1 = .ok (t.2.1, t.2.2) := by decide +kernel
theorem DX12_duads_1 : ∀ t ∈ ([(93, .ifCond .ne 9, 3), (96, .iinc 7 1, 3), (99, .goto (-13), 3), (102, .aload_n 0, 1), (103, .iload_n 1, 1), (104, .iconst 0, 1), (105, .iload_n 2, 1), (106, .invokestatic 178, 3), (109, .iadd, 1), (110, .invokestatic 111, 3), (113, .iload_n 1, 1), (114, .iload_n 3, 1), (115, .iload 4, 2), (117, .invokestatic 178, 3), (120, .iadd, 1), (121, .invokestatic 111, 3), (124, .lor, 1), (125, .iload_n 1, 1), (126, .iload 6, 2), (128, .iload 7, 2), (130, .invokestatic 178, 3), (133, .iadd, 1), (134, .invokestatic 111, 3), (137, .lor, 1), (138, .invokevirtual 182, 3), (141, .iinc 4 1, 3), (144, .goto (-120), 3), (147, .iinc 2 1, 3), (150, .goto (-148), 3), (153, .return_, 1)] : List (Nat × Instr × Nat)), decode cX12_duads t.1 = .ok (t.2.1, t.2.2) := by decide +kernel
noncomputable def f_X12_duads_64 (s_t : OS) (b1 : Int32) (b2 : Int32) (b3 : Int32) (b4 : Int32) (b5 : Int32) : Int32 → Option ((Int32) ⊕ (Int32)) := fun b6 => (if (b5 >>> (b6 &&& 31)) &&& 1 = 0 then bnd (b6 + 1 : Int32) (fun v10 => some (.inl v10)) else some (.inr b6))
noncomputable def f_X12_duads_86 (s_t : OS) (b1 : Int32) (b2 : Int32) (b3 : Int32) (b4 : Int32) (b5 : Int32) (b6 : Int32) : Int32 → Option ((Int32) ⊕ (Int32)) := fun b7 => (if (b5 >>> (b7 &&& 31)) &&& 1 = 0 then bnd (b7 + 1 : Int32) (fun v18 => some (.inl v18)) else some (.inr b7))
noncomputable def f_X12_duads_24 (b1 : Int32) (b2 : Int32) (b3 : Int32) : (OS × Int32) → Option ((OS × Int32) ⊕ (OS)) := fun z => match z with | (s_t, b4) => (if 6 ≤ b4 then some (.inr s_t) else (if b4 = b2 then bnd (b4 + 1 : Int32) (fun v46 => some (.inl ((s_t, v46)))) else bnd ((63 : Int32) &&& (((((1 : Int32) ||| ((1 : Int32) <<< (b2 &&& 31))) ||| ((1 : Int32) <<< (b3 &&& 31))) ||| ((1 : Int32) <<< (b4 &&& 31))) ^^^ ((-1))) : Int32) (fun v7 => (lpv (f_X12_duads_64 s_t b1 b2 b3 b4 v7) 0).bind (fun x12 => bnd (x12 + 1 : Int32) (fun v15 => (lpv (f_X12_duads_86 s_t b1 b2 b3 b4 v7 x12) v15).bind (fun x20 => (f_X12_pair 0 b2).bind (fun x23 => (f_X12_bit (b1 + x23)).bind (fun x26 => (f_X12_pair b3 b4).bind (fun x29 => (f_X12_bit (b1 + x29)).bind (fun x32 => (f_X12_pair x12 x20).bind (fun x35 => (f_X12_bit (b1 + x35)).bind (fun x38 => (f_X12_puts s_t ((x26 ||| x32) ||| x38)).bind (fun x41 => bnd (b4 + 1 : Int32) (fun v44 => some (.inl ((x41, v44)))))))))))))))))
noncomputable def f_X12_duads_2 (b1 : Int32) : (OS × Int32) → Option ((OS × Int32) ⊕ (OS)) := fun z => match z with | (s_t, b2) => (if 6 ≤ b2 then some (.inr s_t) else (if b2 = 1 then bnd ((2 : Int32) + 1 : Int32) (fun v53 => (lpv (f_X12_duads_24 b1 b2 2) ((s_t, v53))).bind (fun x55 => bnd (b2 + 1 : Int32) (fun v58 => some (.inl ((x55, v58)))))) else bnd ((1 : Int32) + 1 : Int32) (fun v3 => (lpv (f_X12_duads_24 b1 b2 1) ((s_t, v3))).bind (fun x48 => bnd (b2 + 1 : Int32) (fun v51 => some (.inl ((x48, v51))))))))
noncomputable def f_X12_duads (st : OS) (a0 : Int32) : Option (OS) := (lpv (f_X12_duads_2 a0) ((st, 1))).bind (fun x60 => some x60)
set_option maxHeartbeats 4000000 in
set_option maxRecDepth 100000 in
theorem w_X12_duads_64 {p : Program} {l : Launch} {e : Env} {s : State} {m : MethodId} {args : Array Value} {below : List Frame} {meth : Method} {c : Code} {Q : State → Prop} {G : mG} {h : mM} {q : Nat → Nat} (hq : oinj LX12 q) (X : mX G p m c cX12_duads 8 s args RX12) (s_t : OS) (b1 : Int32) (b2 : Int32) (b3 : Int32) (b4 : Int32) (b5 : Int32) : ∀ (z : Int32) (r : Int32), lpv (f_X12_duads_64 s_t b1 b2 b3 b4 b5) z = some r → ∀ (H : Heap) (locs : List Loc) (ls : Array Slot), mH G (oset LX12 G q s_t h) s.heap H locs → lv_has ls 8 [(0, .ref (q 53)), (1, .int b1), (2, .int b2), (3, .int b3), (4, .int b4), (5, .int b5), (6, .int z)] → (∀ (H : Heap) (locs : List Loc) (ls : Array Slot), mH G (oset LX12 G q s_t h) s.heap H locs → lv_has ls 8 [(0, .ref (q 53)), (1, .int b1), (2, .int b2), (3, .int b3), (4, .int b4), (5, .int b5), (6, .int r)] → W p l e rm_X12_duads s m args below meth c H locs 0 0 Q (F0 m 80 ls [])) → W p l e rm_X12_duads s m args below meth c H locs 0 0 Q (F0 m 64 ls []) := by
  refine lpv_rec ?_
  intro z r x hF hx H locs ls hH hl K0
  obtain ⟨b6, hz⟩ : ∃ y, y = z := ⟨_, rfl⟩
  subst hz
  dsimp only [f_X12_duads_64] at hF
  refine lv_iload X.x X.b (dk DX12_duads_0 43 rfl) (lv_at hl 5 rfl) ?_
  refine lv_iload X.x X.b (dk DX12_duads_0 44 rfl) (lv_at hl 6 rfl) ?_
  refine lv_ishr X.x X.b (dk DX12_duads_0 45 rfl) ?_
  refine lv_iconst (v := 1) X.x X.b (dk DX12_duads_0 46 rfl) (by decide) ?_
  refine lv_iand X.x X.b (dk DX12_duads_0 47 rfl) ?_
  refine lv_if_ne (tgt := 80) X.x X.b (dk DX12_duads_0 48 rfl) (by decide) (fun c9 => ?_) (fun c9 => ?_)
  · replace hF := if_f hF c9
    have hr9 := lp_r hF hx
    subst hr9
    exact K0 _ _ _ hH (lv_sub hl [0, 1, 2, 3, 4, 5, 6] rfl)
  · replace hF := if_t hF c9
    obtain ⟨v10, e11⟩ : ∃ y : Int32, y = b6 + 1 := ⟨_, rfl⟩
    replace hF := bnd_e hF e11
    refine lv_iinc (v := v10) (lv' := [(6, .int v10), (0, .ref (q 53)), (1, .int b1), (2, .int b2), (3, .int b3), (4, .int b4), (5, .int b5)]) X.x X.b (dk DX12_duads_0 49 rfl) hl (k := 6) rfl (by rw [e11]; rfl) (by decide) rfl (fun ls hl => ?_)
    replace hl : lv_has ls 8 [(0, .ref (q 53)), (1, .int b1), (2, .int b2), (3, .int b3), (4, .int b4), (5, .int b5), (6, .int v10)] := lv_sub hl [1, 2, 3, 4, 5, 6, 0] rfl
    refine lv_goto (tgt := 64) X.x X.b (dk DX12_duads_0 50 rfl) (by decide) ?_
    exact (lp_l hF hx) _ _ _ hH (lv_sub hl [0, 1, 2, 3, 4, 5, 6] rfl) K0
set_option maxHeartbeats 4000000 in
set_option maxRecDepth 100000 in
theorem w_X12_duads_86 {p : Program} {l : Launch} {e : Env} {s : State} {m : MethodId} {args : Array Value} {below : List Frame} {meth : Method} {c : Code} {Q : State → Prop} {G : mG} {h : mM} {q : Nat → Nat} (hq : oinj LX12 q) (X : mX G p m c cX12_duads 8 s args RX12) (s_t : OS) (b1 : Int32) (b2 : Int32) (b3 : Int32) (b4 : Int32) (b5 : Int32) (b6 : Int32) : ∀ (z : Int32) (r : Int32), lpv (f_X12_duads_86 s_t b1 b2 b3 b4 b5 b6) z = some r → ∀ (H : Heap) (locs : List Loc) (ls : Array Slot), mH G (oset LX12 G q s_t h) s.heap H locs → lv_has ls 8 [(0, .ref (q 53)), (1, .int b1), (2, .int b2), (3, .int b3), (4, .int b4), (5, .int b5), (6, .int b6), (7, .int z)] → (∀ (H : Heap) (locs : List Loc) (ls : Array Slot), mH G (oset LX12 G q s_t h) s.heap H locs → lv_has ls 8 [(0, .ref (q 53)), (1, .int b1), (2, .int b2), (3, .int b3), (4, .int b4), (6, .int b6), (7, .int r)] → W p l e rm_X12_duads s m args below meth c H locs 0 0 Q (F0 m 102 ls [])) → W p l e rm_X12_duads s m args below meth c H locs 0 0 Q (F0 m 86 ls []) := by
  refine lpv_rec ?_
  intro z r x hF hx H locs ls hH hl K0
  obtain ⟨b7, hz⟩ : ∃ y, y = z := ⟨_, rfl⟩
  subst hz
  dsimp only [f_X12_duads_86] at hF
  refine lv_iload X.x X.b (dk DX12_duads_0 55 rfl) (lv_at hl 5 rfl) ?_
  refine lv_iload X.x X.b (dk DX12_duads_0 56 rfl) (lv_at hl 7 rfl) ?_
  refine lv_ishr X.x X.b (dk DX12_duads_0 57 rfl) ?_
  refine lv_iconst (v := 1) X.x X.b (dk DX12_duads_0 58 rfl) (by decide) ?_
  refine lv_iand X.x X.b (dk DX12_duads_0 59 rfl) ?_
  refine lv_if_ne (tgt := 102) X.x X.b (dk DX12_duads_1 0 rfl) (by decide) (fun c17 => ?_) (fun c17 => ?_)
  · replace hF := if_f hF c17
    have hr9 := lp_r hF hx
    subst hr9
    exact K0 _ _ _ hH (lv_sub hl [0, 1, 2, 3, 4, 6, 7] rfl)
  · replace hF := if_t hF c17
    obtain ⟨v18, e19⟩ : ∃ y : Int32, y = b7 + 1 := ⟨_, rfl⟩
    replace hF := bnd_e hF e19
    refine lv_iinc (v := v18) (lv' := [(7, .int v18), (0, .ref (q 53)), (1, .int b1), (2, .int b2), (3, .int b3), (4, .int b4), (5, .int b5), (6, .int b6)]) X.x X.b (dk DX12_duads_1 1 rfl) hl (k := 7) rfl (by rw [e19]; rfl) (by decide) rfl (fun ls hl => ?_)
    replace hl : lv_has ls 8 [(0, .ref (q 53)), (1, .int b1), (2, .int b2), (3, .int b3), (4, .int b4), (5, .int b5), (6, .int b6), (7, .int v18)] := lv_sub hl [1, 2, 3, 4, 5, 6, 7, 0] rfl
    refine lv_goto (tgt := 86) X.x X.b (dk DX12_duads_1 2 rfl) (by decide) ?_
    exact (lp_l hF hx) _ _ _ hH (lv_sub hl [0, 1, 2, 3, 4, 5, 6, 7] rfl) K0
set_option maxHeartbeats 4000000 in
set_option maxRecDepth 100000 in
theorem w_X12_duads_24 {p : Program} {l : Launch} {e : Env} {s : State} {m : MethodId} {args : Array Value} {below : List Frame} {meth : Method} {c : Code} {Q : State → Prop} {G : mG} {h : mM} {q : Nat → Nat} (hq : oinj LX12 q) (X : mX G p m c cX12_duads 8 s args RX12) (b1 : Int32) (b2 : Int32) (b3 : Int32) : ∀ (z : OS × Int32) (r : OS), lpv (f_X12_duads_24 b1 b2 b3) z = some r → ∀ (H : Heap) (locs : List Loc) (ls : Array Slot), mH G (oset LX12 G q z.1 h) s.heap H locs → lv_has ls 8 [(0, .ref (q 53)), (1, .int b1), (2, .int b2), (3, .int b3), (4, .int z.2)] → (∀ (H : Heap) (locs : List Loc) (ls : Array Slot), mH G (oset LX12 G q r h) s.heap H locs → lv_has ls 8 [(0, .ref (q 53)), (1, .int b1), (2, .int b2)] → W p l e rm_X12_duads s m args below meth c H locs 0 0 Q (F0 m 147 ls [])) → W p l e rm_X12_duads s m args below meth c H locs 0 0 Q (F0 m 24 ls []) := by
  refine lpv_rec ?_
  intro z r x hF hx H locs ls hH hl K0
  obtain ⟨s_t, b4⟩ := z
  dsimp only [f_X12_duads_24] at hF
  try dsimp only at hH hl
  refine lv_iload X.x X.b (dk DX12_duads_0 16 rfl) (lv_at hl 4 rfl) ?_
  refine lv_bipush (v := 6) X.x X.b (dk DX12_duads_0 17 rfl) (by decide) ?_
  refine lv_icmp_ge (tgt := 147) X.x X.b (dk DX12_duads_0 18 rfl) (by decide) (fun c5 => ?_) (fun c5 => ?_)
  · replace hF := if_t hF c5
    have hr9 := lp_r hF hx
    subst hr9
    exact K0 _ _ _ hH (lv_sub hl [0, 1, 2] rfl)
  · replace hF := if_f hF c5
    refine lv_iload X.x X.b (dk DX12_duads_0 19 rfl) (lv_at hl 4 rfl) ?_
    refine lv_iload_n X.x X.b (dk DX12_duads_0 20 rfl) rfl (lv_at hl 2 rfl) ?_
    refine lv_icmp_ne (tgt := 40) X.x X.b (dk DX12_duads_0 21 rfl) (by decide) (fun c6 => ?_) (fun c6 => ?_)
    · replace hF := if_f hF c6
      refine lv_bipush (v := 63) X.x X.b (dk DX12_duads_0 23 rfl) (by decide) ?_
      refine lv_iconst (v := 1) X.x X.b (dk DX12_duads_0 24 rfl) (by decide) ?_
      refine lv_iconst (v := 1) X.x X.b (dk DX12_duads_0 25 rfl) (by decide) ?_
      refine lv_iload_n X.x X.b (dk DX12_duads_0 26 rfl) rfl (lv_at hl 2 rfl) ?_
      refine lv_ishl X.x X.b (dk DX12_duads_0 27 rfl) ?_
      refine lv_ior X.x X.b (dk DX12_duads_0 28 rfl) ?_
      refine lv_iconst (v := 1) X.x X.b (dk DX12_duads_0 29 rfl) (by decide) ?_
      refine lv_iload_n X.x X.b (dk DX12_duads_0 30 rfl) rfl (lv_at hl 3 rfl) ?_
      refine lv_ishl X.x X.b (dk DX12_duads_0 31 rfl) ?_
      refine lv_ior X.x X.b (dk DX12_duads_0 32 rfl) ?_
      refine lv_iconst (v := 1) X.x X.b (dk DX12_duads_0 33 rfl) (by decide) ?_
      refine lv_iload X.x X.b (dk DX12_duads_0 34 rfl) (lv_at hl 4 rfl) ?_
      refine lv_ishl X.x X.b (dk DX12_duads_0 35 rfl) ?_
      refine lv_ior X.x X.b (dk DX12_duads_0 36 rfl) ?_
      refine lv_iconst (v := (-1)) X.x X.b (dk DX12_duads_0 37 rfl) (by decide) ?_
      refine lv_ixor X.x X.b (dk DX12_duads_0 38 rfl) ?_
      refine lv_iand X.x X.b (dk DX12_duads_0 39 rfl) ?_
      refine lv_topi (fun v7 e8 => ?_)
      replace hF := bnd_e hF e8
      refine lv_istore (lv' := [(5, .int v7), (0, .ref (q 53)), (1, .int b1), (2, .int b2), (3, .int b3), (4, .int b4)]) X.x X.b (dk DX12_duads_0 40 rfl) hl (by decide) rfl (fun ls hl => ?_)
      replace hl : lv_has ls 8 [(0, .ref (q 53)), (1, .int b1), (2, .int b2), (3, .int b3), (4, .int b4), (5, .int v7)] := lv_sub hl [1, 2, 3, 4, 5, 0] rfl
      refine lv_iconst (v := 0) X.x X.b (dk DX12_duads_0 41 rfl) (by decide) ?_
      refine lv_istore (lv' := [(6, .int 0), (0, .ref (q 53)), (1, .int b1), (2, .int b2), (3, .int b3), (4, .int b4), (5, .int v7)]) X.x X.b (dk DX12_duads_0 42 rfl) hl (by decide) rfl (fun ls hl => ?_)
      replace hl : lv_has ls 8 [(0, .ref (q 53)), (1, .int b1), (2, .int b2), (3, .int b3), (4, .int b4), (5, .int v7), (6, .int 0)] := lv_sub hl [1, 2, 3, 4, 5, 6, 0] rfl
      obtain ⟨x12, e13, hF⟩ := bd hF
      replace hl : lv_has ls 8 [(0, .ref (q 53)), (1, .int b1), (2, .int b2), (3, .int b3), (4, .int b4), (5, .int v7), (6, .int 0)] := lv_sub hl [0, 1, 2, 3, 4, 5, 6] rfl
      refine w_X12_duads_64 hq X s_t b1 b2 b3 b4 v7 _ _ e13 _ _ _ hH hl (fun H locs ls hH hl => ?_)
      refine lv_iload X.x X.b (dk DX12_duads_0 51 rfl) (lv_at hl 6 rfl) ?_
      refine lv_iconst (v := 1) X.x X.b (dk DX12_duads_0 52 rfl) (by decide) ?_
      refine lv_iadd X.x X.b (dk DX12_duads_0 53 rfl) ?_
      refine lv_topi (fun v15 e16 => ?_)
      replace hF := bnd_e hF e16
      refine lv_istore (lv' := [(7, .int v15), (0, .ref (q 53)), (1, .int b1), (2, .int b2), (3, .int b3), (4, .int b4), (5, .int v7), (6, .int x12)]) X.x X.b (dk DX12_duads_0 54 rfl) hl (by decide) rfl (fun ls hl => ?_)
      replace hl : lv_has ls 8 [(0, .ref (q 53)), (1, .int b1), (2, .int b2), (3, .int b3), (4, .int b4), (5, .int v7), (6, .int x12), (7, .int v15)] := lv_sub hl [1, 2, 3, 4, 5, 6, 7, 0] rfl
      obtain ⟨x20, e21, hF⟩ := bd hF
      replace hl : lv_has ls 8 [(0, .ref (q 53)), (1, .int b1), (2, .int b2), (3, .int b3), (4, .int b4), (5, .int v7), (6, .int x12), (7, .int v15)] := lv_sub hl [0, 1, 2, 3, 4, 5, 6, 7] rfl
      refine w_X12_duads_86 hq X s_t b1 b2 b3 b4 v7 x12 _ _ e21 _ _ _ hH hl (fun H locs ls hH hl => ?_)
      refine lv_aload_n X.x X.b (dk DX12_duads_1 3 rfl) rfl (lv_at hl 0 rfl) ?_
      refine lv_iload_n X.x X.b (dk DX12_duads_1 4 rfl) rfl (lv_at hl 1 rfl) ?_
      refine lv_iconst (v := 0) X.x X.b (dk DX12_duads_1 5 rfl) (by decide) ?_
      refine lv_iload_n X.x X.b (dk DX12_duads_1 6 rfl) rfl (lv_at hl 2 rfl) ?_
      obtain ⟨x23, e24, hF⟩ := bd hF
      refine mr_ci0 hH ⟨rfl, rfl⟩ (mr_runS (As := [.int 0, .int b2]) (rest := [.int b1, .ref (q 53)]) X hH (c_X12_pair e24) kM_X12_178 kT_X12_pair kN_X12 kC_X12_pair hd_X12_pair ⟨Nat.le_of_ble_eq_true rfl, Nat.le_of_ble_eq_true rfl⟩ rfl hl.1 (Nat.le_of_ble_eq_true rfl) (dk DX12_duads_1 7 rfl) ⟨Nat.zero_le _, Nat.zero_le _⟩) (fun r h1 H locs hp hH => ?_)
      obtain ⟨hr1, hr2⟩ := hp; rw [hr1]; rw [hr2] at hH; clear hr1 hr2
      refine lv_iadd X.x X.b (dk DX12_duads_1 8 rfl) ?_
      obtain ⟨x26, e27, hF⟩ := bd hF
      refine mr_cl0 hH ⟨rfl, rfl⟩ (mr_runS (As := [.int (b1 + x23)]) (rest := [.ref (q 53)]) X hH (c_X12_bit e27) kM_X12_111 kT_X12_bit kN_X12 kC_X12_bit hd_X12_bit ⟨Nat.le_of_ble_eq_true rfl, Nat.le_of_ble_eq_true rfl⟩ rfl hl.1 (Nat.le_of_ble_eq_true rfl) (dk DX12_duads_1 9 rfl) ⟨Nat.zero_le _, Nat.zero_le _⟩) (fun r h1 H locs hp hH => ?_)
      obtain ⟨hr1, hr2⟩ := hp; rw [hr1]; rw [hr2] at hH; clear hr1 hr2
      refine lv_iload_n X.x X.b (dk DX12_duads_1 10 rfl) rfl (lv_at hl 1 rfl) ?_
      refine lv_iload_n X.x X.b (dk DX12_duads_1 11 rfl) rfl (lv_at hl 3 rfl) ?_
      refine lv_iload X.x X.b (dk DX12_duads_1 12 rfl) (lv_at hl 4 rfl) ?_
      obtain ⟨x29, e30, hF⟩ := bd hF
      refine mr_ci0 hH ⟨rfl, rfl⟩ (mr_runS (As := [.int b3, .int b4]) (rest := [.int b1, .long x26, .ref (q 53)]) X hH (c_X12_pair e30) kM_X12_178 kT_X12_pair kN_X12 kC_X12_pair hd_X12_pair ⟨Nat.le_of_ble_eq_true rfl, Nat.le_of_ble_eq_true rfl⟩ rfl hl.1 (Nat.le_of_ble_eq_true rfl) (dk DX12_duads_1 13 rfl) ⟨Nat.zero_le _, Nat.zero_le _⟩) (fun r h1 H locs hp hH => ?_)
      obtain ⟨hr1, hr2⟩ := hp; rw [hr1]; rw [hr2] at hH; clear hr1 hr2
      refine lv_iadd X.x X.b (dk DX12_duads_1 14 rfl) ?_
      obtain ⟨x32, e33, hF⟩ := bd hF
      refine mr_cl0 hH ⟨rfl, rfl⟩ (mr_runS (As := [.int (b1 + x29)]) (rest := [.long x26, .ref (q 53)]) X hH (c_X12_bit e33) kM_X12_111 kT_X12_bit kN_X12 kC_X12_bit hd_X12_bit ⟨Nat.le_of_ble_eq_true rfl, Nat.le_of_ble_eq_true rfl⟩ rfl hl.1 (Nat.le_of_ble_eq_true rfl) (dk DX12_duads_1 15 rfl) ⟨Nat.zero_le _, Nat.zero_le _⟩) (fun r h1 H locs hp hH => ?_)
      obtain ⟨hr1, hr2⟩ := hp; rw [hr1]; rw [hr2] at hH; clear hr1 hr2
      refine lv_lor X.x X.b (dk DX12_duads_1 16 rfl) ?_
      refine lv_iload_n X.x X.b (dk DX12_duads_1 17 rfl) rfl (lv_at hl 1 rfl) ?_
      refine lv_iload X.x X.b (dk DX12_duads_1 18 rfl) (lv_at hl 5 rfl) ?_
      refine lv_iload X.x X.b (dk DX12_duads_1 19 rfl) (lv_at hl 6 rfl) ?_
      obtain ⟨x35, e36, hF⟩ := bd hF
      refine mr_ci0 hH ⟨rfl, rfl⟩ (mr_runS (As := [.int x12, .int x20]) (rest := [.int b1, .long (x26 ||| x32), .ref (q 53)]) X hH (c_X12_pair e36) kM_X12_178 kT_X12_pair kN_X12 kC_X12_pair hd_X12_pair ⟨Nat.le_of_ble_eq_true rfl, Nat.le_of_ble_eq_true rfl⟩ rfl hl.1 (Nat.le_of_ble_eq_true rfl) (dk DX12_duads_1 20 rfl) ⟨Nat.zero_le _, Nat.zero_le _⟩) (fun r h1 H locs hp hH => ?_)
      obtain ⟨hr1, hr2⟩ := hp; rw [hr1]; rw [hr2] at hH; clear hr1 hr2
      refine lv_iadd X.x X.b (dk DX12_duads_1 21 rfl) ?_
      obtain ⟨x38, e39, hF⟩ := bd hF
      refine mr_cl0 hH ⟨rfl, rfl⟩ (mr_runS (As := [.int (b1 + x35)]) (rest := [.long (x26 ||| x32), .ref (q 53)]) X hH (c_X12_bit e39) kM_X12_111 kT_X12_bit kN_X12 kC_X12_bit hd_X12_bit ⟨Nat.le_of_ble_eq_true rfl, Nat.le_of_ble_eq_true rfl⟩ rfl hl.1 (Nat.le_of_ble_eq_true rfl) (dk DX12_duads_1 22 rfl) ⟨Nat.zero_le _, Nat.zero_le _⟩) (fun r h1 H locs hp hH => ?_)
      obtain ⟨hr1, hr2⟩ := hp; rw [hr1]; rw [hr2] at hH; clear hr1 hr2
      refine lv_lor X.x X.b (dk DX12_duads_1 23 rfl) ?_
      obtain ⟨x41, e42, hF⟩ := bd hF
      refine mr_cv0 hH ⟨rfl, rfl⟩ (mr_runV (As := [.long ((x26 ||| x32) ||| x38)]) (rest := []) X hH (c_X12_puts hq e42) ((oset_at hq (Nat.le_refl _) ohas_N).trans (congrArg some ocell_N)) OX12.1 kM_X12_182 kI_X12_puts kS_X12_puts kN_X12 kC_X12_puts hd_X12_puts ⟨Nat.le_of_ble_eq_true rfl, Nat.le_of_ble_eq_true rfl⟩ rfl hl.1 (Nat.le_of_ble_eq_true rfl) (dk DX12_duads_1 24 rfl) ⟨Nat.zero_le _, Nat.zero_le _⟩) (fun h1 H locs hp hH => ?_)
      rw [hp] at hH; clear hp
      obtain ⟨v44, e45⟩ : ∃ y : Int32, y = b4 + 1 := ⟨_, rfl⟩
      replace hF := bnd_e hF e45
      refine lv_iinc (v := v44) (lv' := [(4, .int v44), (0, .ref (q 53)), (1, .int b1), (2, .int b2), (3, .int b3), (6, .int x12), (7, .int x20)]) X.x X.b (dk DX12_duads_1 25 rfl) hl (k := 4) rfl (by rw [e45]; rfl) (by decide) rfl (fun ls hl => ?_)
      replace hl : lv_has ls 8 [(0, .ref (q 53)), (1, .int b1), (2, .int b2), (3, .int b3), (4, .int v44)] := lv_sub hl [1, 2, 3, 4, 0] rfl
      refine lv_goto (tgt := 24) X.x X.b (dk DX12_duads_1 26 rfl) (by decide) ?_
      exact (lp_l hF hx) _ _ _ hH (lv_sub hl [0, 1, 2, 3, 4] rfl) K0
    · replace hF := if_t hF c6
      refine lv_goto (tgt := 141) X.x X.b (dk DX12_duads_0 22 rfl) (by decide) ?_
      obtain ⟨v46, e47⟩ : ∃ y : Int32, y = b4 + 1 := ⟨_, rfl⟩
      replace hF := bnd_e hF e47
      refine lv_iinc (v := v46) (lv' := [(4, .int v46), (0, .ref (q 53)), (1, .int b1), (2, .int b2), (3, .int b3)]) X.x X.b (dk DX12_duads_1 25 rfl) hl (k := 4) rfl (by rw [e47]; rfl) (by decide) rfl (fun ls hl => ?_)
      replace hl : lv_has ls 8 [(0, .ref (q 53)), (1, .int b1), (2, .int b2), (3, .int b3), (4, .int v46)] := lv_sub hl [1, 2, 3, 4, 0] rfl
      refine lv_goto (tgt := 24) X.x X.b (dk DX12_duads_1 26 rfl) (by decide) ?_
      exact (lp_l hF hx) _ _ _ hH (lv_sub hl [0, 1, 2, 3, 4] rfl) K0
set_option maxHeartbeats 4000000 in
set_option maxRecDepth 100000 in
theorem w_X12_duads_2 {p : Program} {l : Launch} {e : Env} {s : State} {m : MethodId} {args : Array Value} {below : List Frame} {meth : Method} {c : Code} {Q : State → Prop} {G : mG} {h : mM} {q : Nat → Nat} (hq : oinj LX12 q) (X : mX G p m c cX12_duads 8 s args RX12) (b1 : Int32) : ∀ (z : OS × Int32) (r : OS), lpv (f_X12_duads_2 b1) z = some r → ∀ (H : Heap) (locs : List Loc) (ls : Array Slot), mH G (oset LX12 G q z.1 h) s.heap H locs → lv_has ls 8 [(0, .ref (q 53)), (1, .int b1), (2, .int z.2)] → (∀ (H : Heap) (locs : List Loc) (ls : Array Slot), mH G (oset LX12 G q r h) s.heap H locs → lv_has ls 8 [] → W p l e rm_X12_duads s m args below meth c H locs 0 0 Q (F0 m 153 ls [])) → W p l e rm_X12_duads s m args below meth c H locs 0 0 Q (F0 m 2 ls []) := by
  refine lpv_rec ?_
  intro z r x hF hx H locs ls hH hl K0
  obtain ⟨s_t, b2⟩ := z
  dsimp only [f_X12_duads_2] at hF
  try dsimp only at hH hl
  refine lv_iload_n X.x X.b (dk DX12_duads_0 2 rfl) rfl (lv_at hl 2 rfl) ?_
  refine lv_bipush (v := 6) X.x X.b (dk DX12_duads_0 3 rfl) (by decide) ?_
  refine lv_icmp_ge (tgt := 153) X.x X.b (dk DX12_duads_0 4 rfl) (by decide) (fun c1 => ?_) (fun c1 => ?_)
  · replace hF := if_t hF c1
    have hr9 := lp_r hF hx
    subst hr9
    exact K0 _ _ _ hH (lv_sub hl [] rfl)
  · replace hF := if_f hF c1
    refine lv_iload_n X.x X.b (dk DX12_duads_0 5 rfl) rfl (lv_at hl 2 rfl) ?_
    refine lv_iconst (v := 1) X.x X.b (dk DX12_duads_0 6 rfl) (by decide) ?_
    refine lv_icmp_ne (tgt := 17) X.x X.b (dk DX12_duads_0 7 rfl) (by decide) (fun c2 => ?_) (fun c2 => ?_)
    · replace hF := if_f hF c2
      refine lv_iconst (v := 1) X.x X.b (dk DX12_duads_0 10 rfl) (by decide) ?_
      refine lv_istore_n (lv' := [(3, .int 1), (0, .ref (q 53)), (1, .int b1), (2, .int b2)]) X.x X.b (dk DX12_duads_0 11 rfl) rfl hl (by decide) rfl (fun ls hl => ?_)
      replace hl : lv_has ls 8 [(0, .ref (q 53)), (1, .int b1), (2, .int b2), (3, .int 1)] := lv_sub hl [1, 2, 3, 0] rfl
      refine lv_iload_n X.x X.b (dk DX12_duads_0 12 rfl) rfl (lv_at hl 3 rfl) ?_
      refine lv_iconst (v := 1) X.x X.b (dk DX12_duads_0 13 rfl) (by decide) ?_
      refine lv_iadd X.x X.b (dk DX12_duads_0 14 rfl) ?_
      refine lv_topi (fun v3 e4 => ?_)
      replace hF := bnd_e hF e4
      refine lv_istore (lv' := [(4, .int v3), (0, .ref (q 53)), (1, .int b1), (2, .int b2), (3, .int 1)]) X.x X.b (dk DX12_duads_0 15 rfl) hl (by decide) rfl (fun ls hl => ?_)
      replace hl : lv_has ls 8 [(0, .ref (q 53)), (1, .int b1), (2, .int b2), (3, .int 1), (4, .int v3)] := lv_sub hl [1, 2, 3, 4, 0] rfl
      obtain ⟨x48, e49, hF⟩ := bd hF
      replace hl : lv_has ls 8 [(0, .ref (q 53)), (1, .int b1), (2, .int b2), (3, .int 1), (4, .int v3)] := lv_sub hl [0, 1, 2, 3, 4] rfl
      refine w_X12_duads_24 hq X b1 b2 1 _ _ e49 _ _ _ hH hl (fun H locs ls hH hl => ?_)
      obtain ⟨v51, e52⟩ : ∃ y : Int32, y = b2 + 1 := ⟨_, rfl⟩
      replace hF := bnd_e hF e52
      refine lv_iinc (v := v51) (lv' := [(2, .int v51), (0, .ref (q 53)), (1, .int b1)]) X.x X.b (dk DX12_duads_1 27 rfl) hl (k := 2) rfl (by rw [e52]; rfl) (by decide) rfl (fun ls hl => ?_)
      replace hl : lv_has ls 8 [(0, .ref (q 53)), (1, .int b1), (2, .int v51)] := lv_sub hl [1, 2, 0] rfl
      refine lv_goto (tgt := 2) X.x X.b (dk DX12_duads_1 28 rfl) (by decide) ?_
      exact (lp_l hF hx) _ _ _ hH (lv_sub hl [0, 1, 2] rfl) K0
    · replace hF := if_t hF c2
      refine lv_iconst (v := 2) X.x X.b (dk DX12_duads_0 8 rfl) (by decide) ?_
      refine lv_goto (tgt := 18) X.x X.b (dk DX12_duads_0 9 rfl) (by decide) ?_
      refine lv_istore_n (lv' := [(3, .int 2), (0, .ref (q 53)), (1, .int b1), (2, .int b2)]) X.x X.b (dk DX12_duads_0 11 rfl) rfl hl (by decide) rfl (fun ls hl => ?_)
      replace hl : lv_has ls 8 [(0, .ref (q 53)), (1, .int b1), (2, .int b2), (3, .int 2)] := lv_sub hl [1, 2, 3, 0] rfl
      refine lv_iload_n X.x X.b (dk DX12_duads_0 12 rfl) rfl (lv_at hl 3 rfl) ?_
      refine lv_iconst (v := 1) X.x X.b (dk DX12_duads_0 13 rfl) (by decide) ?_
      refine lv_iadd X.x X.b (dk DX12_duads_0 14 rfl) ?_
      refine lv_topi (fun v53 e54 => ?_)
      replace hF := bnd_e hF e54
      refine lv_istore (lv' := [(4, .int v53), (0, .ref (q 53)), (1, .int b1), (2, .int b2), (3, .int 2)]) X.x X.b (dk DX12_duads_0 15 rfl) hl (by decide) rfl (fun ls hl => ?_)
      replace hl : lv_has ls 8 [(0, .ref (q 53)), (1, .int b1), (2, .int b2), (3, .int 2), (4, .int v53)] := lv_sub hl [1, 2, 3, 4, 0] rfl
      obtain ⟨x55, e56, hF⟩ := bd hF
      replace hl : lv_has ls 8 [(0, .ref (q 53)), (1, .int b1), (2, .int b2), (3, .int 2), (4, .int v53)] := lv_sub hl [0, 1, 2, 3, 4] rfl
      refine w_X12_duads_24 hq X b1 b2 2 _ _ e56 _ _ _ hH hl (fun H locs ls hH hl => ?_)
      obtain ⟨v58, e59⟩ : ∃ y : Int32, y = b2 + 1 := ⟨_, rfl⟩
      replace hF := bnd_e hF e59
      refine lv_iinc (v := v58) (lv' := [(2, .int v58), (0, .ref (q 53)), (1, .int b1)]) X.x X.b (dk DX12_duads_1 27 rfl) hl (k := 2) rfl (by rw [e59]; rfl) (by decide) rfl (fun ls hl => ?_)
      replace hl : lv_has ls 8 [(0, .ref (q 53)), (1, .int b1), (2, .int v58)] := lv_sub hl [1, 2, 0] rfl
      refine lv_goto (tgt := 2) X.x X.b (dk DX12_duads_1 28 rfl) (by decide) ?_
      exact (lp_l hF hx) _ _ _ hH (lv_sub hl [0, 1, 2] rfl) K0
set_option maxHeartbeats 4000000 in
set_option maxRecDepth 100000 in
theorem c_X12_duads {l : Launch} {G : mG} {h : mM} {q : Nat → Nat} (hq : oinj LX12 q) {st : OS} {a0 : Int32} {x : OS} (hF : f_X12_duads st a0 = some x) : cQ l G yX12_duads cX12_duads 8 none rm_X12_duads [.ref (q 53), .int a0] (oset LX12 G q st h) (mQv G (fun h1 => h1 = oset LX12 G q x h)) := by
  refine mp_of (by decide +kernel) (Nat.le_of_ble_eq_true rfl) ?_
  intro p e s m below meth c X hr hlk hH hname ls hl
  dsimp only [f_X12_duads] at hF
  replace hl : lv_has ls 8 [(0, .ref (q 53)), (1, .int a0)] := hl
  refine lv_iconst (v := 1) X.x X.b (dk DX12_duads_0 0 rfl) (by decide) ?_
  refine lv_istore_n (lv' := [(2, .int 1), (0, .ref (q 53)), (1, .int a0)]) X.x X.b (dk DX12_duads_0 1 rfl) rfl hl (by decide) rfl (fun ls hl => ?_)
  replace hl : lv_has ls 8 [(0, .ref (q 53)), (1, .int a0), (2, .int 1)] := lv_sub hl [1, 2, 0] rfl
  obtain ⟨x60, e61, hF⟩ := bd hF
  replace hl : lv_has ls 8 [(0, .ref (q 53)), (1, .int a0), (2, .int 1)] := lv_sub hl [0, 1, 2] rfl
  refine w_X12_duads_2 hq X a0 _ _ e61 _ _ _ hH hl (fun H locs ls hH hl => ?_)
  cases sm hF
  exact mr_vret X hr hlk hH rfl (dk DX12_duads_1 29 rfl)
-- X12_sixes
abbrev rm_X12_sixes : Room := { frames := 2, cells := 0, slots := 0, locals := 51 }
theorem hd_X12_sixes : mHd yX12_sixes 0 := ⟨by decide +kernel, by decide +kernel, by decide +kernel⟩
theorem DX12_sixes_0 : ∀ t ∈ ([(0, .iconst 0, 1), (1, .istore_n 1, 1), (2, .iload_n 1, 1), (3, .bipush 6, 2), (5, .if_icmp .ge 56, 3), (8, .iconst 0, 1), (9, .istore_n 2, 1), (10, .iload_n 2, 1), (11, .bipush 6, 2), (13, .if_icmp .ge 42, 3), (16, .iload_n 1, 1), (17, .iload_n 2, 1), (18, .if_icmp .eq 31, 3), (21, .aload_n 0, 1), (22, .iload_n 1, 1), (23, .invokestatic 111, 3), (26, .bipush 6, 2), (28, .iload_n 2, 1), (29, .iadd, 1), (30, .invokestatic 111, 3), (33, .lor, 1), (34, .bipush 12, 2), (36, .iload_n 1, 1), (37, .iload_n 2, 1), (38, .invokestatic 178, 3), (41, .iadd, 1), (42, .invokestatic 111, 3), (45, .lor, 1), (46, .invokevirtual 182, 3), (49, .iinc 2 1, 3), (52, .goto (-42), 3), (55, .iinc 1 1, 3), (58, .goto (-56), 3), (61, .aload_n 0, 1), (62, .bipush 12, 2), (64, .invokevirtual 186, 3), (67, .return_, 1)] : List (Nat × Instr × Nat)), decode cX12_sixes t.1 = .ok (t.2.1, t.2.2) := by decide +kernel
noncomputable def f_X12_sixes_10 (b1 : Int32) : (OS × Int32) → Option ((OS × Int32) ⊕ (OS)) := fun z => match z with | (s_t, b2) => (if 6 ≤ b2 then some (.inr s_t) else (if b1 = b2 then bnd (b2 + 1 : Int32) (fun v4 => some (.inl ((s_t, v4)))) else (f_X12_bit b1).bind (fun x6 => (f_X12_bit ((6 : Int32) + b2)).bind (fun x9 => (f_X12_pair b1 b2).bind (fun x12 => (f_X12_bit ((12 : Int32) + x12)).bind (fun x15 => (f_X12_puts s_t ((x6 ||| x9) ||| x15)).bind (fun x18 => bnd (b2 + 1 : Int32) (fun v21 => some (.inl ((x18, v21)))))))))))
noncomputable def f_X12_sixes_2 : (OS × Int32) → Option ((OS × Int32) ⊕ (OS)) := fun z => match z with | (s_t, b1) => (if 6 ≤ b1 then some (.inr s_t) else (lpv (f_X12_sixes_10 b1) ((s_t, 0))).bind (fun x23 => bnd (b1 + 1 : Int32) (fun v26 => some (.inl ((x23, v26))))))
noncomputable def f_X12_sixes (st : OS) : Option (OS) := (lpv (f_X12_sixes_2) ((st, 0))).bind (fun x28 => (f_X12_duads x28 12).bind (fun x31 => some x31))
set_option maxHeartbeats 4000000 in
set_option maxRecDepth 100000 in
theorem w_X12_sixes_10 {p : Program} {l : Launch} {e : Env} {s : State} {m : MethodId} {args : Array Value} {below : List Frame} {meth : Method} {c : Code} {Q : State → Prop} {G : mG} {h : mM} {q : Nat → Nat} (hq : oinj LX12 q) (X : mX G p m c cX12_sixes 3 s args RX12) (b1 : Int32) : ∀ (z : OS × Int32) (r : OS), lpv (f_X12_sixes_10 b1) z = some r → ∀ (H : Heap) (locs : List Loc) (ls : Array Slot), mH G (oset LX12 G q z.1 h) s.heap H locs → lv_has ls 3 [(0, .ref (q 53)), (1, .int b1), (2, .int z.2)] → (∀ (H : Heap) (locs : List Loc) (ls : Array Slot), mH G (oset LX12 G q r h) s.heap H locs → lv_has ls 3 [(0, .ref (q 53)), (1, .int b1)] → W p l e rm_X12_sixes s m args below meth c H locs 0 0 Q (F0 m 55 ls [])) → W p l e rm_X12_sixes s m args below meth c H locs 0 0 Q (F0 m 10 ls []) := by
  refine lpv_rec ?_
  intro z r x hF hx H locs ls hH hl K0
  obtain ⟨s_t, b2⟩ := z
  dsimp only [f_X12_sixes_10] at hF
  try dsimp only at hH hl
  refine lv_iload_n X.x X.b (dk DX12_sixes_0 7 rfl) rfl (lv_at hl 2 rfl) ?_
  refine lv_bipush (v := 6) X.x X.b (dk DX12_sixes_0 8 rfl) (by decide) ?_
  refine lv_icmp_ge (tgt := 55) X.x X.b (dk DX12_sixes_0 9 rfl) (by decide) (fun c2 => ?_) (fun c2 => ?_)
  · replace hF := if_t hF c2
    have hr9 := lp_r hF hx
    subst hr9
    exact K0 _ _ _ hH (lv_sub hl [0, 1] rfl)
  · replace hF := if_f hF c2
    refine lv_iload_n X.x X.b (dk DX12_sixes_0 10 rfl) rfl (lv_at hl 1 rfl) ?_
    refine lv_iload_n X.x X.b (dk DX12_sixes_0 11 rfl) rfl (lv_at hl 2 rfl) ?_
    refine lv_icmp_eq (tgt := 49) X.x X.b (dk DX12_sixes_0 12 rfl) (by decide) (fun c3 => ?_) (fun c3 => ?_)
    · replace hF := if_t hF c3
      obtain ⟨v4, e5⟩ : ∃ y : Int32, y = b2 + 1 := ⟨_, rfl⟩
      replace hF := bnd_e hF e5
      refine lv_iinc (v := v4) (lv' := [(2, .int v4), (0, .ref (q 53)), (1, .int b1)]) X.x X.b (dk DX12_sixes_0 29 rfl) hl (k := 2) rfl (by rw [e5]; rfl) (by decide) rfl (fun ls hl => ?_)
      replace hl : lv_has ls 3 [(0, .ref (q 53)), (1, .int b1), (2, .int v4)] := lv_sub hl [1, 2, 0] rfl
      refine lv_goto (tgt := 10) X.x X.b (dk DX12_sixes_0 30 rfl) (by decide) ?_
      exact (lp_l hF hx) _ _ _ hH (lv_sub hl [0, 1, 2] rfl) K0
    · replace hF := if_f hF c3
      refine lv_aload_n X.x X.b (dk DX12_sixes_0 13 rfl) rfl (lv_at hl 0 rfl) ?_
      refine lv_iload_n X.x X.b (dk DX12_sixes_0 14 rfl) rfl (lv_at hl 1 rfl) ?_
      obtain ⟨x6, e7, hF⟩ := bd hF
      refine mr_cl0 hH ⟨rfl, rfl⟩ (mr_runS (As := [.int b1]) (rest := [.ref (q 53)]) X hH (c_X12_bit e7) kM_X12_111 kT_X12_bit kN_X12 kC_X12_bit hd_X12_bit ⟨Nat.le_of_ble_eq_true rfl, Nat.le_of_ble_eq_true rfl⟩ rfl hl.1 (Nat.le_of_ble_eq_true rfl) (dk DX12_sixes_0 15 rfl) ⟨Nat.zero_le _, Nat.zero_le _⟩) (fun r h1 H locs hp hH => ?_)
      obtain ⟨hr1, hr2⟩ := hp; rw [hr1]; rw [hr2] at hH; clear hr1 hr2
      refine lv_bipush (v := 6) X.x X.b (dk DX12_sixes_0 16 rfl) (by decide) ?_
      refine lv_iload_n X.x X.b (dk DX12_sixes_0 17 rfl) rfl (lv_at hl 2 rfl) ?_
      refine lv_iadd X.x X.b (dk DX12_sixes_0 18 rfl) ?_
      obtain ⟨x9, e10, hF⟩ := bd hF
      refine mr_cl0 hH ⟨rfl, rfl⟩ (mr_runS (As := [.int ((6 : Int32) + b2)]) (rest := [.long x6, .ref (q 53)]) X hH (c_X12_bit e10) kM_X12_111 kT_X12_bit kN_X12 kC_X12_bit hd_X12_bit ⟨Nat.le_of_ble_eq_true rfl, Nat.le_of_ble_eq_true rfl⟩ rfl hl.1 (Nat.le_of_ble_eq_true rfl) (dk DX12_sixes_0 19 rfl) ⟨Nat.zero_le _, Nat.zero_le _⟩) (fun r h1 H locs hp hH => ?_)
      obtain ⟨hr1, hr2⟩ := hp; rw [hr1]; rw [hr2] at hH; clear hr1 hr2
      refine lv_lor X.x X.b (dk DX12_sixes_0 20 rfl) ?_
      refine lv_bipush (v := 12) X.x X.b (dk DX12_sixes_0 21 rfl) (by decide) ?_
      refine lv_iload_n X.x X.b (dk DX12_sixes_0 22 rfl) rfl (lv_at hl 1 rfl) ?_
      refine lv_iload_n X.x X.b (dk DX12_sixes_0 23 rfl) rfl (lv_at hl 2 rfl) ?_
      obtain ⟨x12, e13, hF⟩ := bd hF
      refine mr_ci0 hH ⟨rfl, rfl⟩ (mr_runS (As := [.int b1, .int b2]) (rest := [.int 12, .long (x6 ||| x9), .ref (q 53)]) X hH (c_X12_pair e13) kM_X12_178 kT_X12_pair kN_X12 kC_X12_pair hd_X12_pair ⟨Nat.le_of_ble_eq_true rfl, Nat.le_of_ble_eq_true rfl⟩ rfl hl.1 (Nat.le_of_ble_eq_true rfl) (dk DX12_sixes_0 24 rfl) ⟨Nat.zero_le _, Nat.zero_le _⟩) (fun r h1 H locs hp hH => ?_)
      obtain ⟨hr1, hr2⟩ := hp; rw [hr1]; rw [hr2] at hH; clear hr1 hr2
      refine lv_iadd X.x X.b (dk DX12_sixes_0 25 rfl) ?_
      obtain ⟨x15, e16, hF⟩ := bd hF
      refine mr_cl0 hH ⟨rfl, rfl⟩ (mr_runS (As := [.int ((12 : Int32) + x12)]) (rest := [.long (x6 ||| x9), .ref (q 53)]) X hH (c_X12_bit e16) kM_X12_111 kT_X12_bit kN_X12 kC_X12_bit hd_X12_bit ⟨Nat.le_of_ble_eq_true rfl, Nat.le_of_ble_eq_true rfl⟩ rfl hl.1 (Nat.le_of_ble_eq_true rfl) (dk DX12_sixes_0 26 rfl) ⟨Nat.zero_le _, Nat.zero_le _⟩) (fun r h1 H locs hp hH => ?_)
      obtain ⟨hr1, hr2⟩ := hp; rw [hr1]; rw [hr2] at hH; clear hr1 hr2
      refine lv_lor X.x X.b (dk DX12_sixes_0 27 rfl) ?_
      obtain ⟨x18, e19, hF⟩ := bd hF
      refine mr_cv0 hH ⟨rfl, rfl⟩ (mr_runV (As := [.long ((x6 ||| x9) ||| x15)]) (rest := []) X hH (c_X12_puts hq e19) ((oset_at hq (Nat.le_refl _) ohas_N).trans (congrArg some ocell_N)) OX12.1 kM_X12_182 kI_X12_puts kS_X12_puts kN_X12 kC_X12_puts hd_X12_puts ⟨Nat.le_of_ble_eq_true rfl, Nat.le_of_ble_eq_true rfl⟩ rfl hl.1 (Nat.le_of_ble_eq_true rfl) (dk DX12_sixes_0 28 rfl) ⟨Nat.zero_le _, Nat.zero_le _⟩) (fun h1 H locs hp hH => ?_)
      rw [hp] at hH; clear hp
      obtain ⟨v21, e22⟩ : ∃ y : Int32, y = b2 + 1 := ⟨_, rfl⟩
      replace hF := bnd_e hF e22
      refine lv_iinc (v := v21) (lv' := [(2, .int v21), (0, .ref (q 53)), (1, .int b1)]) X.x X.b (dk DX12_sixes_0 29 rfl) hl (k := 2) rfl (by rw [e22]; rfl) (by decide) rfl (fun ls hl => ?_)
      replace hl : lv_has ls 3 [(0, .ref (q 53)), (1, .int b1), (2, .int v21)] := lv_sub hl [1, 2, 0] rfl
      refine lv_goto (tgt := 10) X.x X.b (dk DX12_sixes_0 30 rfl) (by decide) ?_
      exact (lp_l hF hx) _ _ _ hH (lv_sub hl [0, 1, 2] rfl) K0
set_option maxHeartbeats 4000000 in
set_option maxRecDepth 100000 in
theorem w_X12_sixes_2 {p : Program} {l : Launch} {e : Env} {s : State} {m : MethodId} {args : Array Value} {below : List Frame} {meth : Method} {c : Code} {Q : State → Prop} {G : mG} {h : mM} {q : Nat → Nat} (hq : oinj LX12 q) (X : mX G p m c cX12_sixes 3 s args RX12) : ∀ (z : OS × Int32) (r : OS), lpv (f_X12_sixes_2) z = some r → ∀ (H : Heap) (locs : List Loc) (ls : Array Slot), mH G (oset LX12 G q z.1 h) s.heap H locs → lv_has ls 3 [(0, .ref (q 53)), (1, .int z.2)] → (∀ (H : Heap) (locs : List Loc) (ls : Array Slot), mH G (oset LX12 G q r h) s.heap H locs → lv_has ls 3 [(0, .ref (q 53))] → W p l e rm_X12_sixes s m args below meth c H locs 0 0 Q (F0 m 61 ls [])) → W p l e rm_X12_sixes s m args below meth c H locs 0 0 Q (F0 m 2 ls []) := by
  refine lpv_rec ?_
  intro z r x hF hx H locs ls hH hl K0
  obtain ⟨s_t, b1⟩ := z
  dsimp only [f_X12_sixes_2] at hF
  try dsimp only at hH hl
  refine lv_iload_n X.x X.b (dk DX12_sixes_0 2 rfl) rfl (lv_at hl 1 rfl) ?_
  refine lv_bipush (v := 6) X.x X.b (dk DX12_sixes_0 3 rfl) (by decide) ?_
  refine lv_icmp_ge (tgt := 61) X.x X.b (dk DX12_sixes_0 4 rfl) (by decide) (fun c1 => ?_) (fun c1 => ?_)
  · replace hF := if_t hF c1
    have hr9 := lp_r hF hx
    subst hr9
    exact K0 _ _ _ hH (lv_sub hl [0] rfl)
  · replace hF := if_f hF c1
    refine lv_iconst (v := 0) X.x X.b (dk DX12_sixes_0 5 rfl) (by decide) ?_
    refine lv_istore_n (lv' := [(2, .int 0), (0, .ref (q 53)), (1, .int b1)]) X.x X.b (dk DX12_sixes_0 6 rfl) rfl hl (by decide) rfl (fun ls hl => ?_)
    replace hl : lv_has ls 3 [(0, .ref (q 53)), (1, .int b1), (2, .int 0)] := lv_sub hl [1, 2, 0] rfl
    obtain ⟨x23, e24, hF⟩ := bd hF
    replace hl : lv_has ls 3 [(0, .ref (q 53)), (1, .int b1), (2, .int 0)] := lv_sub hl [0, 1, 2] rfl
    refine w_X12_sixes_10 hq X b1 _ _ e24 _ _ _ hH hl (fun H locs ls hH hl => ?_)
    obtain ⟨v26, e27⟩ : ∃ y : Int32, y = b1 + 1 := ⟨_, rfl⟩
    replace hF := bnd_e hF e27
    refine lv_iinc (v := v26) (lv' := [(1, .int v26), (0, .ref (q 53))]) X.x X.b (dk DX12_sixes_0 31 rfl) hl (k := 1) rfl (by rw [e27]; rfl) (by decide) rfl (fun ls hl => ?_)
    replace hl : lv_has ls 3 [(0, .ref (q 53)), (1, .int v26)] := lv_sub hl [1, 0] rfl
    refine lv_goto (tgt := 2) X.x X.b (dk DX12_sixes_0 32 rfl) (by decide) ?_
    exact (lp_l hF hx) _ _ _ hH (lv_sub hl [0, 1] rfl) K0
set_option maxHeartbeats 4000000 in
set_option maxRecDepth 100000 in
theorem c_X12_sixes {l : Launch} {G : mG} {h : mM} {q : Nat → Nat} (hq : oinj LX12 q) {st : OS} {x : OS} (hF : f_X12_sixes st = some x) : cQ l G yX12_sixes cX12_sixes 3 none rm_X12_sixes [.ref (q 53)] (oset LX12 G q st h) (mQv G (fun h1 => h1 = oset LX12 G q x h)) := by
  refine mp_of (by decide +kernel) (Nat.le_of_ble_eq_true rfl) ?_
  intro p e s m below meth c X hr hlk hH hname ls hl
  dsimp only [f_X12_sixes] at hF
  replace hl : lv_has ls 3 [(0, .ref (q 53))] := hl
  refine lv_iconst (v := 0) X.x X.b (dk DX12_sixes_0 0 rfl) (by decide) ?_
  refine lv_istore_n (lv' := [(1, .int 0), (0, .ref (q 53))]) X.x X.b (dk DX12_sixes_0 1 rfl) rfl hl (by decide) rfl (fun ls hl => ?_)
  replace hl : lv_has ls 3 [(0, .ref (q 53)), (1, .int 0)] := lv_sub hl [1, 0] rfl
  obtain ⟨x28, e29, hF⟩ := bd hF
  replace hl : lv_has ls 3 [(0, .ref (q 53)), (1, .int 0)] := lv_sub hl [0, 1] rfl
  refine w_X12_sixes_2 hq X _ _ e29 _ _ _ hH hl (fun H locs ls hH hl => ?_)
  refine lv_aload_n X.x X.b (dk DX12_sixes_0 33 rfl) rfl (lv_at hl 0 rfl) ?_
  refine lv_bipush (v := 12) X.x X.b (dk DX12_sixes_0 34 rfl) (by decide) ?_
  obtain ⟨x31, e32, hF⟩ := bd hF
  refine mr_cv0 hH ⟨rfl, rfl⟩ (mr_runV (As := [.int 12]) (rest := []) X hH (c_X12_duads hq e32) ((oset_at hq (Nat.le_refl _) ohas_N).trans (congrArg some ocell_N)) OX12.1 kM_X12_186 kI_X12_duads kS_X12_duads kN_X12 kC_X12_duads hd_X12_duads ⟨Nat.le_of_ble_eq_true rfl, Nat.le_of_ble_eq_true rfl⟩ rfl hl.1 (Nat.le_of_ble_eq_true rfl) (dk DX12_sixes_0 35 rfl) ⟨Nat.zero_le _, Nat.zero_le _⟩) (fun h1 H locs hp hH => ?_)
  rw [hp] at hH; clear hp
  cases sm hF
  exact mr_vret X hr hlk hH rfl (dk DX12_sixes_0 36 rfl)
-- X12_grid
abbrev rm_X12_grid : Room := { frames := 2, cells := 0, slots := 0, locals := 40 }
theorem hd_X12_grid : mHd yX12_grid 2 := ⟨by decide +kernel, by decide +kernel, by decide +kernel⟩
theorem DX12_grid_0 : ∀ t ∈ ([(0, .aload_n 0, 1), (1, .iload_n 1, 1), (2, .iload_n 2, 1), (3, .imul, 1), (4, .putfield 189, 3), (7, .iconst 0, 1), (8, .istore_n 3, 1), (9, .iload_n 3, 1), (10, .iload_n 1, 1), (11, .if_icmp .ge 21, 3), (14, .aload_n 0, 1), (15, .iload_n 2, 1), (16, .invokestatic 192, 3), (19, .iload_n 2, 1), (20, .iload_n 3, 1), (21, .imul, 1), (22, .lshl, 1), (23, .invokevirtual 182, 3), (26, .iinc 3 1, 3), (29, .goto (-20), 3), (32, .iconst 0, 1), (33, .istore_n 3, 1), (34, .iload_n 3, 1), (35, .iload_n 2, 1), (36, .if_icmp .ge 47, 3), (39, .lconst 0, 1), (40, .lstore 4, 2), (42, .iconst 0, 1), (43, .istore 6, 2), (45, .iload 6, 2), (47, .iload_n 1, 1), (48, .if_icmp .ge 23, 3), (51, .lload 4, 2), (53, .iload_n 2, 1), (54, .iload 6, 2), (56, .imul, 1), (57, .iload_n 3, 1), (58, .iadd, 1), (59, .invokestatic 111, 3), (62, .lor, 1), (63, .lstore 4, 2), (65, .iinc 6 1, 3), (68, .goto (-23), 3), (71, .aload_n 0, 1), (72, .lload 4, 2), (74, .invokevirtual 182, 3), (77, .iinc 3 1, 3), (80, .goto (-46), 3), (83, .return_, 1)] : List (Nat × Instr × Nat)), decode cX12_grid t.1 = .ok (t.2.1, t.2.2) := by decide +kernel
noncomputable def f_X12_grid_9 (b1 : Int32) (b2 : Int32) : (OS × Int32) → Option ((OS × Int32) ⊕ (OS)) := fun z => match z with | (s_t, b3) => (if b1 ≤ b3 then some (.inr s_t) else (f_X12_allOf b2).bind (fun x4 => (f_X12_puts s_t (((x4 : Int64)) <<< ((b2 * b3 : Int32).toInt64 &&& 63))).bind (fun x7 => bnd (b3 + 1 : Int32) (fun v10 => some (.inl ((x7, v10)))))))
noncomputable def f_X12_grid_45 (s_t : OS) (b1 : Int32) (b2 : Int32) (b3 : Int32) : (Int64 × Int32) → Option ((Int64 × Int32) ⊕ (Int64)) := fun z => match z with | (b4, b6) => (if b1 ≤ b6 then some (.inr b4) else (f_X12_bit ((b2 * b6) + b3)).bind (fun x17 => bnd (b4 ||| x17 : Int64) (fun v20 => bnd (b6 + 1 : Int32) (fun v22 => some (.inl ((v20, v22)))))))
noncomputable def f_X12_grid_34 (b1 : Int32) (b2 : Int32) : (OS × Int32) → Option ((OS × Int32) ⊕ (OS)) := fun z => match z with | (s_t, b3) => (if b2 ≤ b3 then some (.inr s_t) else (lpv (f_X12_grid_45 s_t b1 b2 b3) ((0, 0))).bind (fun x24 => (f_X12_puts s_t x24).bind (fun x27 => bnd (b3 + 1 : Int32) (fun v30 => some (.inl ((x27, v30)))))))
noncomputable def f_X12_grid (st : OS) (a0 : Int32) (a1 : Int32) : Option (OS) := bnd (oI st 15 (a0 * a1)) (fun t1 => (lpv (f_X12_grid_9 a0 a1) ((t1, 0))).bind (fun x12 => (lpv (f_X12_grid_34 a0 a1) ((x12, 0))).bind (fun x32 => some x32)))
set_option maxHeartbeats 4000000 in
set_option maxRecDepth 100000 in
theorem w_X12_grid_9 {p : Program} {l : Launch} {e : Env} {s : State} {m : MethodId} {args : Array Value} {below : List Frame} {meth : Method} {c : Code} {Q : State → Prop} {G : mG} {h : mM} {q : Nat → Nat} (hq : oinj LX12 q) (X : mX G p m c cX12_grid 7 s args RX12) (b1 : Int32) (b2 : Int32) : ∀ (z : OS × Int32) (r : OS), lpv (f_X12_grid_9 b1 b2) z = some r → ∀ (H : Heap) (locs : List Loc) (ls : Array Slot), mH G (oset LX12 G q z.1 h) s.heap H locs → lv_has ls 7 [(0, .ref (q 53)), (1, .int b1), (2, .int b2), (3, .int z.2)] → (∀ (H : Heap) (locs : List Loc) (ls : Array Slot), mH G (oset LX12 G q r h) s.heap H locs → lv_has ls 7 [(0, .ref (q 53)), (1, .int b1), (2, .int b2)] → W p l e rm_X12_grid s m args below meth c H locs 0 0 Q (F0 m 32 ls [])) → W p l e rm_X12_grid s m args below meth c H locs 0 0 Q (F0 m 9 ls []) := by
  refine lpv_rec ?_
  intro z r x hF hx H locs ls hH hl K0
  obtain ⟨s_t, b3⟩ := z
  dsimp only [f_X12_grid_9] at hF
  try dsimp only at hH hl
  refine lv_iload_n X.x X.b (dk DX12_grid_0 7 rfl) rfl (lv_at hl 3 rfl) ?_
  refine lv_iload_n X.x X.b (dk DX12_grid_0 8 rfl) rfl (lv_at hl 1 rfl) ?_
  refine lv_icmp_ge (tgt := 32) X.x X.b (dk DX12_grid_0 9 rfl) (by decide) (fun c3 => ?_) (fun c3 => ?_)
  · replace hF := if_t hF c3
    have hr9 := lp_r hF hx
    subst hr9
    exact K0 _ _ _ hH (lv_sub hl [0, 1, 2] rfl)
  · replace hF := if_f hF c3
    refine lv_aload_n X.x X.b (dk DX12_grid_0 10 rfl) rfl (lv_at hl 0 rfl) ?_
    refine lv_iload_n X.x X.b (dk DX12_grid_0 11 rfl) rfl (lv_at hl 2 rfl) ?_
    obtain ⟨x4, e5, hF⟩ := bd hF
    refine mr_cl0 hH ⟨rfl, rfl⟩ (mr_runS (As := [.int b2]) (rest := [.ref (q 53)]) X hH (c_X12_allOf e5) kM_X12_192 kT_X12_allOf kN_X12 kC_X12_allOf hd_X12_allOf ⟨Nat.le_of_ble_eq_true rfl, Nat.le_of_ble_eq_true rfl⟩ rfl hl.1 (Nat.le_of_ble_eq_true rfl) (dk DX12_grid_0 12 rfl) ⟨Nat.zero_le _, Nat.zero_le _⟩) (fun r h1 H locs hp hH => ?_)
    obtain ⟨hr1, hr2⟩ := hp; rw [hr1]; rw [hr2] at hH; clear hr1 hr2
    refine lv_iload_n X.x X.b (dk DX12_grid_0 13 rfl) rfl (lv_at hl 2 rfl) ?_
    refine lv_iload_n X.x X.b (dk DX12_grid_0 14 rfl) rfl (lv_at hl 3 rfl) ?_
    refine lv_imul X.x X.b (dk DX12_grid_0 15 rfl) ?_
    refine lv_lshl X.x X.b (dk DX12_grid_0 16 rfl) rfl ?_
    obtain ⟨x7, e8, hF⟩ := bd hF
    refine mr_cv0 hH ⟨rfl, rfl⟩ (mr_runV (As := [.long (((x4 : Int64)) <<< ((b2 * b3 : Int32).toInt64 &&& 63))]) (rest := []) X hH (c_X12_puts hq e8) ((oset_at hq (Nat.le_refl _) ohas_N).trans (congrArg some ocell_N)) OX12.1 kM_X12_182 kI_X12_puts kS_X12_puts kN_X12 kC_X12_puts hd_X12_puts ⟨Nat.le_of_ble_eq_true rfl, Nat.le_of_ble_eq_true rfl⟩ rfl hl.1 (Nat.le_of_ble_eq_true rfl) (dk DX12_grid_0 17 rfl) ⟨Nat.zero_le _, Nat.zero_le _⟩) (fun h1 H locs hp hH => ?_)
    rw [hp] at hH; clear hp
    obtain ⟨v10, e11⟩ : ∃ y : Int32, y = b3 + 1 := ⟨_, rfl⟩
    replace hF := bnd_e hF e11
    refine lv_iinc (v := v10) (lv' := [(3, .int v10), (0, .ref (q 53)), (1, .int b1), (2, .int b2)]) X.x X.b (dk DX12_grid_0 18 rfl) hl (k := 3) rfl (by rw [e11]; rfl) (by decide) rfl (fun ls hl => ?_)
    replace hl : lv_has ls 7 [(0, .ref (q 53)), (1, .int b1), (2, .int b2), (3, .int v10)] := lv_sub hl [1, 2, 3, 0] rfl
    refine lv_goto (tgt := 9) X.x X.b (dk DX12_grid_0 19 rfl) (by decide) ?_
    exact (lp_l hF hx) _ _ _ hH (lv_sub hl [0, 1, 2, 3] rfl) K0
set_option maxHeartbeats 4000000 in
set_option maxRecDepth 100000 in
theorem w_X12_grid_45 {p : Program} {l : Launch} {e : Env} {s : State} {m : MethodId} {args : Array Value} {below : List Frame} {meth : Method} {c : Code} {Q : State → Prop} {G : mG} {h : mM} {q : Nat → Nat} (hq : oinj LX12 q) (X : mX G p m c cX12_grid 7 s args RX12) (s_t : OS) (b1 : Int32) (b2 : Int32) (b3 : Int32) : ∀ (z : Int64 × Int32) (r : Int64), lpv (f_X12_grid_45 s_t b1 b2 b3) z = some r → ∀ (H : Heap) (locs : List Loc) (ls : Array Slot), mH G (oset LX12 G q s_t h) s.heap H locs → lv_has ls 7 [(0, .ref (q 53)), (1, .int b1), (2, .int b2), (3, .int b3), (4, .long z.1), (6, .int z.2)] → (∀ (H : Heap) (locs : List Loc) (ls : Array Slot), mH G (oset LX12 G q s_t h) s.heap H locs → lv_has ls 7 [(0, .ref (q 53)), (1, .int b1), (2, .int b2), (3, .int b3), (4, .long r)] → W p l e rm_X12_grid s m args below meth c H locs 0 0 Q (F0 m 71 ls [])) → W p l e rm_X12_grid s m args below meth c H locs 0 0 Q (F0 m 45 ls []) := by
  refine lpv_rec ?_
  intro z r x hF hx H locs ls hH hl K0
  obtain ⟨b4, b6⟩ := z
  dsimp only [f_X12_grid_45] at hF
  try dsimp only at hH hl
  refine lv_iload X.x X.b (dk DX12_grid_0 29 rfl) (lv_at hl 5 rfl) ?_
  refine lv_iload_n X.x X.b (dk DX12_grid_0 30 rfl) rfl (lv_at hl 1 rfl) ?_
  refine lv_icmp_ge (tgt := 71) X.x X.b (dk DX12_grid_0 31 rfl) (by decide) (fun c16 => ?_) (fun c16 => ?_)
  · replace hF := if_t hF c16
    have hr9 := lp_r hF hx
    subst hr9
    exact K0 _ _ _ hH (lv_sub hl [0, 1, 2, 3, 4] rfl)
  · replace hF := if_f hF c16
    refine lv_lload X.x X.b (dk DX12_grid_0 32 rfl) (lv_at hl 4 rfl) ?_
    refine lv_iload_n X.x X.b (dk DX12_grid_0 33 rfl) rfl (lv_at hl 2 rfl) ?_
    refine lv_iload X.x X.b (dk DX12_grid_0 34 rfl) (lv_at hl 5 rfl) ?_
    refine lv_imul X.x X.b (dk DX12_grid_0 35 rfl) ?_
    refine lv_iload_n X.x X.b (dk DX12_grid_0 36 rfl) rfl (lv_at hl 3 rfl) ?_
    refine lv_iadd X.x X.b (dk DX12_grid_0 37 rfl) ?_
    obtain ⟨x17, e18, hF⟩ := bd hF
    refine mr_cl0 hH ⟨rfl, rfl⟩ (mr_runS (As := [.int ((b2 * b6) + b3)]) (rest := [.long b4]) X hH (c_X12_bit e18) kM_X12_111 kT_X12_bit kN_X12 kC_X12_bit hd_X12_bit ⟨Nat.le_of_ble_eq_true rfl, Nat.le_of_ble_eq_true rfl⟩ rfl hl.1 (Nat.le_of_ble_eq_true rfl) (dk DX12_grid_0 38 rfl) ⟨Nat.zero_le _, Nat.zero_le _⟩) (fun r h1 H locs hp hH => ?_)
    obtain ⟨hr1, hr2⟩ := hp; rw [hr1]; rw [hr2] at hH; clear hr1 hr2
    refine lv_lor X.x X.b (dk DX12_grid_0 39 rfl) ?_
    refine lv_topl (fun v20 e21 => ?_)
    replace hF := bnd_e hF e21
    refine lv_lstore (lv' := [(4, .long v20), (0, .ref (q 53)), (1, .int b1), (2, .int b2), (3, .int b3), (6, .int b6)]) X.x X.b (dk DX12_grid_0 40 rfl) hl (by decide) rfl (fun ls hl => ?_)
    replace hl : lv_has ls 7 [(0, .ref (q 53)), (1, .int b1), (2, .int b2), (3, .int b3), (4, .long v20), (6, .int b6)] := lv_sub hl [1, 2, 3, 4, 0, 5] rfl
    obtain ⟨v22, e23⟩ : ∃ y : Int32, y = b6 + 1 := ⟨_, rfl⟩
    replace hF := bnd_e hF e23
    refine lv_iinc (v := v22) (lv' := [(6, .int v22), (0, .ref (q 53)), (1, .int b1), (2, .int b2), (3, .int b3), (4, .long v20)]) X.x X.b (dk DX12_grid_0 41 rfl) hl (k := 5) rfl (by rw [e23]; rfl) (by decide) rfl (fun ls hl => ?_)
    replace hl : lv_has ls 7 [(0, .ref (q 53)), (1, .int b1), (2, .int b2), (3, .int b3), (4, .long v20), (6, .int v22)] := lv_sub hl [1, 2, 3, 4, 5, 0] rfl
    refine lv_goto (tgt := 45) X.x X.b (dk DX12_grid_0 42 rfl) (by decide) ?_
    exact (lp_l hF hx) _ _ _ hH (lv_sub hl [0, 1, 2, 3, 4, 5] rfl) K0
set_option maxHeartbeats 4000000 in
set_option maxRecDepth 100000 in
theorem w_X12_grid_34 {p : Program} {l : Launch} {e : Env} {s : State} {m : MethodId} {args : Array Value} {below : List Frame} {meth : Method} {c : Code} {Q : State → Prop} {G : mG} {h : mM} {q : Nat → Nat} (hq : oinj LX12 q) (X : mX G p m c cX12_grid 7 s args RX12) (b1 : Int32) (b2 : Int32) : ∀ (z : OS × Int32) (r : OS), lpv (f_X12_grid_34 b1 b2) z = some r → ∀ (H : Heap) (locs : List Loc) (ls : Array Slot), mH G (oset LX12 G q z.1 h) s.heap H locs → lv_has ls 7 [(0, .ref (q 53)), (1, .int b1), (2, .int b2), (3, .int z.2)] → (∀ (H : Heap) (locs : List Loc) (ls : Array Slot), mH G (oset LX12 G q r h) s.heap H locs → lv_has ls 7 [] → W p l e rm_X12_grid s m args below meth c H locs 0 0 Q (F0 m 83 ls [])) → W p l e rm_X12_grid s m args below meth c H locs 0 0 Q (F0 m 34 ls []) := by
  refine lpv_rec ?_
  intro z r x hF hx H locs ls hH hl K0
  obtain ⟨s_t, b3⟩ := z
  dsimp only [f_X12_grid_34] at hF
  try dsimp only at hH hl
  refine lv_iload_n X.x X.b (dk DX12_grid_0 22 rfl) rfl (lv_at hl 3 rfl) ?_
  refine lv_iload_n X.x X.b (dk DX12_grid_0 23 rfl) rfl (lv_at hl 2 rfl) ?_
  refine lv_icmp_ge (tgt := 83) X.x X.b (dk DX12_grid_0 24 rfl) (by decide) (fun c15 => ?_) (fun c15 => ?_)
  · replace hF := if_t hF c15
    have hr9 := lp_r hF hx
    subst hr9
    exact K0 _ _ _ hH (lv_sub hl [] rfl)
  · replace hF := if_f hF c15
    refine lv_lconst (v := 0) X.x X.b (dk DX12_grid_0 25 rfl) (by decide) ?_
    refine lv_lstore (lv' := [(4, .long 0), (0, .ref (q 53)), (1, .int b1), (2, .int b2), (3, .int b3)]) X.x X.b (dk DX12_grid_0 26 rfl) hl (by decide) rfl (fun ls hl => ?_)
    replace hl : lv_has ls 7 [(0, .ref (q 53)), (1, .int b1), (2, .int b2), (3, .int b3), (4, .long 0)] := lv_sub hl [1, 2, 3, 4, 0] rfl
    refine lv_iconst (v := 0) X.x X.b (dk DX12_grid_0 27 rfl) (by decide) ?_
    refine lv_istore (lv' := [(6, .int 0), (0, .ref (q 53)), (1, .int b1), (2, .int b2), (3, .int b3), (4, .long 0)]) X.x X.b (dk DX12_grid_0 28 rfl) hl (by decide) rfl (fun ls hl => ?_)
    replace hl : lv_has ls 7 [(0, .ref (q 53)), (1, .int b1), (2, .int b2), (3, .int b3), (4, .long 0), (6, .int 0)] := lv_sub hl [1, 2, 3, 4, 5, 0] rfl
    obtain ⟨x24, e25, hF⟩ := bd hF
    replace hl : lv_has ls 7 [(0, .ref (q 53)), (1, .int b1), (2, .int b2), (3, .int b3), (4, .long 0), (6, .int 0)] := lv_sub hl [0, 1, 2, 3, 4, 5] rfl
    refine w_X12_grid_45 hq X s_t b1 b2 b3 _ _ e25 _ _ _ hH hl (fun H locs ls hH hl => ?_)
    refine lv_aload_n X.x X.b (dk DX12_grid_0 43 rfl) rfl (lv_at hl 0 rfl) ?_
    refine lv_lload X.x X.b (dk DX12_grid_0 44 rfl) (lv_at hl 4 rfl) ?_
    obtain ⟨x27, e28, hF⟩ := bd hF
    refine mr_cv0 hH ⟨rfl, rfl⟩ (mr_runV (As := [.long x24]) (rest := []) X hH (c_X12_puts hq e28) ((oset_at hq (Nat.le_refl _) ohas_N).trans (congrArg some ocell_N)) OX12.1 kM_X12_182 kI_X12_puts kS_X12_puts kN_X12 kC_X12_puts hd_X12_puts ⟨Nat.le_of_ble_eq_true rfl, Nat.le_of_ble_eq_true rfl⟩ rfl hl.1 (Nat.le_of_ble_eq_true rfl) (dk DX12_grid_0 45 rfl) ⟨Nat.zero_le _, Nat.zero_le _⟩) (fun h1 H locs hp hH => ?_)
    rw [hp] at hH; clear hp
    obtain ⟨v30, e31⟩ : ∃ y : Int32, y = b3 + 1 := ⟨_, rfl⟩
    replace hF := bnd_e hF e31
    refine lv_iinc (v := v30) (lv' := [(3, .int v30), (0, .ref (q 53)), (1, .int b1), (2, .int b2), (4, .long x24)]) X.x X.b (dk DX12_grid_0 46 rfl) hl (k := 3) rfl (by rw [e31]; rfl) (by decide) rfl (fun ls hl => ?_)
    replace hl : lv_has ls 7 [(0, .ref (q 53)), (1, .int b1), (2, .int b2), (3, .int v30)] := lv_sub hl [1, 2, 3, 0] rfl
    refine lv_goto (tgt := 34) X.x X.b (dk DX12_grid_0 47 rfl) (by decide) ?_
    exact (lp_l hF hx) _ _ _ hH (lv_sub hl [0, 1, 2, 3] rfl) K0
set_option maxHeartbeats 4000000 in
set_option maxRecDepth 100000 in
theorem c_X12_grid {l : Launch} {G : mG} {h : mM} {q : Nat → Nat} (hq : oinj LX12 q) {st : OS} {a0 : Int32} {a1 : Int32} {x : OS} (hF : f_X12_grid st a0 a1 = some x) : cQ l G yX12_grid cX12_grid 7 none rm_X12_grid [.ref (q 53), .int a0, .int a1] (oset LX12 G q st h) (mQv G (fun h1 => h1 = oset LX12 G q x h)) := by
  refine mp_of (by decide +kernel) (Nat.le_of_ble_eq_true rfl) ?_
  intro p e s m below meth c X hr hlk hH hname ls hl
  dsimp only [f_X12_grid] at hF
  replace hl : lv_has ls 7 [(0, .ref (q 53)), (1, .int a0), (2, .int a1)] := hl
  refine lv_aload_n X.x X.b (dk DX12_grid_0 0 rfl) rfl (lv_at hl 0 rfl) ?_
  refine lv_iload_n X.x X.b (dk DX12_grid_0 1 rfl) rfl (lv_at hl 1 rfl) ?_
  refine lv_iload_n X.x X.b (dk DX12_grid_0 2 rfl) rfl (lv_at hl 2 rfl) ?_
  refine lv_imul X.x X.b (dk DX12_grid_0 3 rfl) ?_
  refine og_putI OX12 X hq hH 15 (by decide) rfl kF_X12_189 rfl rfl rfl (dk DX12_grid_0 4 rfl) (fun H locs hH => ?_)
  obtain ⟨t1, e2⟩ : ∃ y, y = oI st 15 (a0 * a1) := ⟨_, rfl⟩
  rw [← e2] at hH
  replace hF := bnd_e hF e2
  refine lv_iconst (v := 0) X.x X.b (dk DX12_grid_0 5 rfl) (by decide) ?_
  refine lv_istore_n (lv' := [(3, .int 0), (0, .ref (q 53)), (1, .int a0), (2, .int a1)]) X.x X.b (dk DX12_grid_0 6 rfl) rfl hl (by decide) rfl (fun ls hl => ?_)
  replace hl : lv_has ls 7 [(0, .ref (q 53)), (1, .int a0), (2, .int a1), (3, .int 0)] := lv_sub hl [1, 2, 3, 0] rfl
  obtain ⟨x12, e13, hF⟩ := bd hF
  replace hl : lv_has ls 7 [(0, .ref (q 53)), (1, .int a0), (2, .int a1), (3, .int 0)] := lv_sub hl [0, 1, 2, 3] rfl
  refine w_X12_grid_9 hq X a0 a1 _ _ e13 _ _ _ hH hl (fun H locs ls hH hl => ?_)
  refine lv_iconst (v := 0) X.x X.b (dk DX12_grid_0 20 rfl) (by decide) ?_
  refine lv_istore_n (lv' := [(3, .int 0), (0, .ref (q 53)), (1, .int a0), (2, .int a1)]) X.x X.b (dk DX12_grid_0 21 rfl) rfl hl (by decide) rfl (fun ls hl => ?_)
  replace hl : lv_has ls 7 [(0, .ref (q 53)), (1, .int a0), (2, .int a1), (3, .int 0)] := lv_sub hl [1, 2, 3, 0] rfl
  obtain ⟨x32, e33, hF⟩ := bd hF
  replace hl : lv_has ls 7 [(0, .ref (q 53)), (1, .int a0), (2, .int a1), (3, .int 0)] := lv_sub hl [0, 1, 2, 3] rfl
  refine w_X12_grid_34 hq X a0 a1 _ _ e33 _ _ _ hH hl (fun H locs ls hH hl => ?_)
  cases sm hF
  exact mr_vret X hr hlk hH rfl (dk DX12_grid_0 48 rfl)
-- X12_figure
abbrev rm_X12_figure : Room := { frames := 0, cells := 0, slots := 0, locals := 0 }
theorem hd_X12_figure : mHd yX12_figure 2 := ⟨by decide +kernel, by decide +kernel, by decide +kernel⟩
theorem DX12_figure_0 : ∀ t ∈ ([(0, .iload_n 0, 1), (1, .iload_n 1, 1), (2, .ifCond .ne 8, 3), (5, .bipush 27, 2), (7, .goto 23, 3), (10, .iload_n 1, 1), (11, .iconst 1, 1), (12, .if_icmp .ne 8, 3), (15, .bipush 9, 2), (17, .goto 13, 3), (20, .iload_n 1, 1), (21, .iconst 2, 1), (22, .if_icmp .ne 7, 3), (25, .iconst 3, 1), (26, .goto 4, 3), (29, .iconst 1, 1), (30, .idiv, 1), (31, .iconst 3, 1), (32, .irem, 1), (33, .ireturn, 1)] : List (Nat × Instr × Nat)), decode cX12_figure t.1 = .ok (t.2.1, t.2.2) := by decide +kernel
noncomputable def f_X12_figure (a0 : Int32) (a1 : Int32) : Option (Int32) := (if a1 = 0 then some ((a0 / 27) - (a0 / 27) / 3 * 3) else (if a1 = 1 then some ((a0 / 9) - (a0 / 9) / 3 * 3) else (if a1 = 2 then some ((a0 / 3) - (a0 / 3) / 3 * 3) else some ((a0 / 1) - (a0 / 1) / 3 * 3))))
set_option maxHeartbeats 4000000 in
set_option maxRecDepth 100000 in
theorem c_X12_figure {l : Launch} {G : mG} {h : mM}  {a0 : Int32} {a1 : Int32} {x : Int32} (hF : f_X12_figure a0 a1 = some x) : cQ l G yX12_figure cX12_figure 2 (some FieldType.int) rm_X12_figure [.int a0, .int a1] (h) (mQi G (fun r h1 => r = x ∧ h1 = h)) := by
  refine mp_of (by decide +kernel) (Nat.le_of_ble_eq_true rfl) ?_
  intro p e s m below meth c X hr hlk hH hname ls hl
  dsimp only [f_X12_figure] at hF
  replace hl : lv_has ls 2 [(0, .int a0), (1, .int a1)] := hl
  refine lv_iload_n X.x X.b (dk DX12_figure_0 0 rfl) rfl (lv_at hl 0 rfl) ?_
  refine lv_iload_n X.x X.b (dk DX12_figure_0 1 rfl) rfl (lv_at hl 1 rfl) ?_
  refine lv_if_ne (tgt := 10) X.x X.b (dk DX12_figure_0 2 rfl) (by decide) (fun c1 => ?_) (fun c1 => ?_)
  · replace hF := if_f hF c1
    refine lv_iload_n X.x X.b (dk DX12_figure_0 5 rfl) rfl (lv_at hl 1 rfl) ?_
    refine lv_iconst (v := 1) X.x X.b (dk DX12_figure_0 6 rfl) (by decide) ?_
    refine lv_icmp_ne (tgt := 20) X.x X.b (dk DX12_figure_0 7 rfl) (by decide) (fun c2 => ?_) (fun c2 => ?_)
    · replace hF := if_f hF c2
      refine lv_iload_n X.x X.b (dk DX12_figure_0 10 rfl) rfl (lv_at hl 1 rfl) ?_
      refine lv_iconst (v := 2) X.x X.b (dk DX12_figure_0 11 rfl) (by decide) ?_
      refine lv_icmp_ne (tgt := 29) X.x X.b (dk DX12_figure_0 12 rfl) (by decide) (fun c3 => ?_) (fun c3 => ?_)
      · replace hF := if_f hF c3
        refine lv_iconst (v := 1) X.x X.b (dk DX12_figure_0 15 rfl) (by decide) ?_
        refine lv_idiv X.x X.b (dk DX12_figure_0 16 rfl) (by decide) ?_
        refine lv_iconst (v := 3) X.x X.b (dk DX12_figure_0 17 rfl) (by decide) ?_
        refine lv_irem X.x X.b (dk DX12_figure_0 18 rfl) (by decide) ?_
        cases sm hF
        exact mr_iret X hr hlk hH ⟨rfl, rfl⟩ (dk DX12_figure_0 19 rfl)
      · replace hF := if_t hF c3
        refine lv_iconst (v := 3) X.x X.b (dk DX12_figure_0 13 rfl) (by decide) ?_
        refine lv_goto (tgt := 30) X.x X.b (dk DX12_figure_0 14 rfl) (by decide) ?_
        refine lv_idiv X.x X.b (dk DX12_figure_0 16 rfl) (by decide) ?_
        refine lv_iconst (v := 3) X.x X.b (dk DX12_figure_0 17 rfl) (by decide) ?_
        refine lv_irem X.x X.b (dk DX12_figure_0 18 rfl) (by decide) ?_
        cases sm hF
        exact mr_iret X hr hlk hH ⟨rfl, rfl⟩ (dk DX12_figure_0 19 rfl)
    · replace hF := if_t hF c2
      refine lv_bipush (v := 9) X.x X.b (dk DX12_figure_0 8 rfl) (by decide) ?_
      refine lv_goto (tgt := 30) X.x X.b (dk DX12_figure_0 9 rfl) (by decide) ?_
      refine lv_idiv X.x X.b (dk DX12_figure_0 16 rfl) (by decide) ?_
      refine lv_iconst (v := 3) X.x X.b (dk DX12_figure_0 17 rfl) (by decide) ?_
      refine lv_irem X.x X.b (dk DX12_figure_0 18 rfl) (by decide) ?_
      cases sm hF
      exact mr_iret X hr hlk hH ⟨rfl, rfl⟩ (dk DX12_figure_0 19 rfl)
  · replace hF := if_t hF c1
    refine lv_bipush (v := 27) X.x X.b (dk DX12_figure_0 3 rfl) (by decide) ?_
    refine lv_goto (tgt := 30) X.x X.b (dk DX12_figure_0 4 rfl) (by decide) ?_
    refine lv_idiv X.x X.b (dk DX12_figure_0 16 rfl) (by decide) ?_
    refine lv_iconst (v := 3) X.x X.b (dk DX12_figure_0 17 rfl) (by decide) ?_
    refine lv_irem X.x X.b (dk DX12_figure_0 18 rfl) (by decide) ?_
    cases sm hF
    exact mr_iret X hr hlk hH ⟨rfl, rfl⟩ (dk DX12_figure_0 19 rfl)
-- X12_first
abbrev rm_X12_first : Room := { frames := 1, cells := 0, slots := 0, locals := 21 }
theorem hd_X12_first : mHd yX12_first 1 := ⟨by decide +kernel, by decide +kernel, by decide +kernel⟩
theorem DX12_first_0 : ∀ t ∈ ([(0, .iload_n 0, 1), (1, .iconst 0, 1), (2, .invokestatic 195, 3), (5, .ifCond .eq 11, 3), (8, .iload_n 0, 1), (9, .iconst 0, 1), (10, .invokestatic 195, 3), (13, .goto 40, 3), (16, .iload_n 0, 1), (17, .iconst 1, 1), (18, .invokestatic 195, 3), (21, .ifCond .eq 11, 3), (24, .iload_n 0, 1), (25, .iconst 1, 1), (26, .invokestatic 195, 3), (29, .goto 24, 3), (32, .iload_n 0, 1), (33, .iconst 2, 1), (34, .invokestatic 195, 3), (37, .ifCond .eq 11, 3), (40, .iload_n 0, 1), (41, .iconst 2, 1), (42, .invokestatic 195, 3), (45, .goto 8, 3), (48, .iload_n 0, 1), (49, .iconst 3, 1), (50, .invokestatic 195, 3), (53, .ireturn, 1)] : List (Nat × Instr × Nat)), decode cX12_first t.1 = .ok (t.2.1, t.2.2) := by decide +kernel
noncomputable def f_X12_first (a0 : Int32) : Option (Int32) := (f_X12_figure a0 0).bind (fun x1 => (if x1 = 0 then (f_X12_figure a0 1).bind (fun x5 => (if x5 = 0 then (f_X12_figure a0 2).bind (fun x9 => (if x9 = 0 then (f_X12_figure a0 3).bind (fun x13 => some x13) else (f_X12_figure a0 2).bind (fun x16 => some x16))) else (f_X12_figure a0 1).bind (fun x19 => some x19))) else (f_X12_figure a0 0).bind (fun x22 => some x22)))
set_option maxHeartbeats 4000000 in
set_option maxRecDepth 100000 in
theorem c_X12_first {l : Launch} {G : mG} {h : mM}  {a0 : Int32} {x : Int32} (hF : f_X12_first a0 = some x) : cQ l G yX12_first cX12_first 1 (some FieldType.int) rm_X12_first [.int a0] (h) (mQi G (fun r h1 => r = x ∧ h1 = h)) := by
  refine mp_of (by decide +kernel) (Nat.le_of_ble_eq_true rfl) ?_
  intro p e s m below meth c X hr hlk hH hname ls hl
  dsimp only [f_X12_first] at hF
  replace hl : lv_has ls 1 [(0, .int a0)] := hl
  refine lv_iload_n X.x X.b (dk DX12_first_0 0 rfl) rfl (lv_at hl 0 rfl) ?_
  refine lv_iconst (v := 0) X.x X.b (dk DX12_first_0 1 rfl) (by decide) ?_
  obtain ⟨x1, e2, hF⟩ := bd hF
  refine mr_ci0 hH ⟨rfl, rfl⟩ (mr_runS (As := [.int a0, .int 0]) (rest := []) X hH (c_X12_figure e2) kM_X12_195 kT_X12_figure kN_X12 kC_X12_figure hd_X12_figure ⟨Nat.le_of_ble_eq_true rfl, Nat.le_of_ble_eq_true rfl⟩ rfl hl.1 (Nat.le_of_ble_eq_true rfl) (dk DX12_first_0 2 rfl) ⟨Nat.zero_le _, Nat.zero_le _⟩) (fun r h1 H locs hp hH => ?_)
  obtain ⟨hr1, hr2⟩ := hp; rw [hr1]; rw [hr2] at hH; clear hr1 hr2
  refine lv_if_eq (tgt := 16) X.x X.b (dk DX12_first_0 3 rfl) (by decide) (fun c4 => ?_) (fun c4 => ?_)
  · replace hF := if_t hF c4
    refine lv_iload_n X.x X.b (dk DX12_first_0 8 rfl) rfl (lv_at hl 0 rfl) ?_
    refine lv_iconst (v := 1) X.x X.b (dk DX12_first_0 9 rfl) (by decide) ?_
    obtain ⟨x5, e6, hF⟩ := bd hF
    refine mr_ci0 hH ⟨rfl, rfl⟩ (mr_runS (As := [.int a0, .int 1]) (rest := []) X hH (c_X12_figure e6) kM_X12_195 kT_X12_figure kN_X12 kC_X12_figure hd_X12_figure ⟨Nat.le_of_ble_eq_true rfl, Nat.le_of_ble_eq_true rfl⟩ rfl hl.1 (Nat.le_of_ble_eq_true rfl) (dk DX12_first_0 10 rfl) ⟨Nat.zero_le _, Nat.zero_le _⟩) (fun r h1 H locs hp hH => ?_)
    obtain ⟨hr1, hr2⟩ := hp; rw [hr1]; rw [hr2] at hH; clear hr1 hr2
    refine lv_if_eq (tgt := 32) X.x X.b (dk DX12_first_0 11 rfl) (by decide) (fun c8 => ?_) (fun c8 => ?_)
    · replace hF := if_t hF c8
      refine lv_iload_n X.x X.b (dk DX12_first_0 16 rfl) rfl (lv_at hl 0 rfl) ?_
      refine lv_iconst (v := 2) X.x X.b (dk DX12_first_0 17 rfl) (by decide) ?_
      obtain ⟨x9, e10, hF⟩ := bd hF
      refine mr_ci0 hH ⟨rfl, rfl⟩ (mr_runS (As := [.int a0, .int 2]) (rest := []) X hH (c_X12_figure e10) kM_X12_195 kT_X12_figure kN_X12 kC_X12_figure hd_X12_figure ⟨Nat.le_of_ble_eq_true rfl, Nat.le_of_ble_eq_true rfl⟩ rfl hl.1 (Nat.le_of_ble_eq_true rfl) (dk DX12_first_0 18 rfl) ⟨Nat.zero_le _, Nat.zero_le _⟩) (fun r h1 H locs hp hH => ?_)
      obtain ⟨hr1, hr2⟩ := hp; rw [hr1]; rw [hr2] at hH; clear hr1 hr2
      refine lv_if_eq (tgt := 48) X.x X.b (dk DX12_first_0 19 rfl) (by decide) (fun c12 => ?_) (fun c12 => ?_)
      · replace hF := if_t hF c12
        refine lv_iload_n X.x X.b (dk DX12_first_0 24 rfl) rfl (lv_at hl 0 rfl) ?_
        refine lv_iconst (v := 3) X.x X.b (dk DX12_first_0 25 rfl) (by decide) ?_
        obtain ⟨x13, e14, hF⟩ := bd hF
        refine mr_ci0 hH ⟨rfl, rfl⟩ (mr_runS (As := [.int a0, .int 3]) (rest := []) X hH (c_X12_figure e14) kM_X12_195 kT_X12_figure kN_X12 kC_X12_figure hd_X12_figure ⟨Nat.le_of_ble_eq_true rfl, Nat.le_of_ble_eq_true rfl⟩ rfl hl.1 (Nat.le_of_ble_eq_true rfl) (dk DX12_first_0 26 rfl) ⟨Nat.zero_le _, Nat.zero_le _⟩) (fun r h1 H locs hp hH => ?_)
        obtain ⟨hr1, hr2⟩ := hp; rw [hr1]; rw [hr2] at hH; clear hr1 hr2
        cases sm hF
        exact mr_iret X hr hlk hH ⟨rfl, rfl⟩ (dk DX12_first_0 27 rfl)
      · replace hF := if_f hF c12
        refine lv_iload_n X.x X.b (dk DX12_first_0 20 rfl) rfl (lv_at hl 0 rfl) ?_
        refine lv_iconst (v := 2) X.x X.b (dk DX12_first_0 21 rfl) (by decide) ?_
        obtain ⟨x16, e17, hF⟩ := bd hF
        refine mr_ci0 hH ⟨rfl, rfl⟩ (mr_runS (As := [.int a0, .int 2]) (rest := []) X hH (c_X12_figure e17) kM_X12_195 kT_X12_figure kN_X12 kC_X12_figure hd_X12_figure ⟨Nat.le_of_ble_eq_true rfl, Nat.le_of_ble_eq_true rfl⟩ rfl hl.1 (Nat.le_of_ble_eq_true rfl) (dk DX12_first_0 22 rfl) ⟨Nat.zero_le _, Nat.zero_le _⟩) (fun r h1 H locs hp hH => ?_)
        obtain ⟨hr1, hr2⟩ := hp; rw [hr1]; rw [hr2] at hH; clear hr1 hr2
        refine lv_goto (tgt := 53) X.x X.b (dk DX12_first_0 23 rfl) (by decide) ?_
        cases sm hF
        exact mr_iret X hr hlk hH ⟨rfl, rfl⟩ (dk DX12_first_0 27 rfl)
    · replace hF := if_f hF c8
      refine lv_iload_n X.x X.b (dk DX12_first_0 12 rfl) rfl (lv_at hl 0 rfl) ?_
      refine lv_iconst (v := 1) X.x X.b (dk DX12_first_0 13 rfl) (by decide) ?_
      obtain ⟨x19, e20, hF⟩ := bd hF
      refine mr_ci0 hH ⟨rfl, rfl⟩ (mr_runS (As := [.int a0, .int 1]) (rest := []) X hH (c_X12_figure e20) kM_X12_195 kT_X12_figure kN_X12 kC_X12_figure hd_X12_figure ⟨Nat.le_of_ble_eq_true rfl, Nat.le_of_ble_eq_true rfl⟩ rfl hl.1 (Nat.le_of_ble_eq_true rfl) (dk DX12_first_0 14 rfl) ⟨Nat.zero_le _, Nat.zero_le _⟩) (fun r h1 H locs hp hH => ?_)
      obtain ⟨hr1, hr2⟩ := hp; rw [hr1]; rw [hr2] at hH; clear hr1 hr2
      refine lv_goto (tgt := 53) X.x X.b (dk DX12_first_0 15 rfl) (by decide) ?_
      cases sm hF
      exact mr_iret X hr hlk hH ⟨rfl, rfl⟩ (dk DX12_first_0 27 rfl)
  · replace hF := if_f hF c4
    refine lv_iload_n X.x X.b (dk DX12_first_0 4 rfl) rfl (lv_at hl 0 rfl) ?_
    refine lv_iconst (v := 0) X.x X.b (dk DX12_first_0 5 rfl) (by decide) ?_
    obtain ⟨x22, e23, hF⟩ := bd hF
    refine mr_ci0 hH ⟨rfl, rfl⟩ (mr_runS (As := [.int a0, .int 0]) (rest := []) X hH (c_X12_figure e23) kM_X12_195 kT_X12_figure kN_X12 kC_X12_figure hd_X12_figure ⟨Nat.le_of_ble_eq_true rfl, Nat.le_of_ble_eq_true rfl⟩ rfl hl.1 (Nat.le_of_ble_eq_true rfl) (dk DX12_first_0 6 rfl) ⟨Nat.zero_le _, Nat.zero_le _⟩) (fun r h1 H locs hp hH => ?_)
    obtain ⟨hr1, hr2⟩ := hp; rw [hr1]; rw [hr2] at hH; clear hr1 hr2
    refine lv_goto (tgt := 53) X.x X.b (dk DX12_first_0 7 rfl) (by decide) ?_
    cases sm hF
    exact mr_iret X hr hlk hH ⟨rfl, rfl⟩ (dk DX12_first_0 27 rfl)
-- X12_sum
abbrev rm_X12_sum (d : Nat) : Room := { frames := 2 + d, cells := 0, slots := 0, locals := 41 + d * 25 }
theorem hd_X12_sum : mHd yX12_sum 3 := ⟨by decide +kernel, by decide +kernel, by decide +kernel⟩
theorem DX12_sum_0 : ∀ t ∈ ([(0, .iconst 0, 1), (1, .istore 4, 2), (3, .iconst 0, 1), (4, .istore 5, 2), (6, .iload 5, 2), (8, .iconst 4, 1), (9, .if_icmp .ge 33, 3), (12, .iconst 3, 1), (13, .iload 4, 2), (15, .imul, 1), (16, .iload_n 1, 1), (17, .iload 5, 2), (19, .invokestatic 195, 3), (22, .iload_n 3, 1), (23, .iload_n 2, 1), (24, .iload 5, 2), (26, .invokestatic 195, 3), (29, .imul, 1), (30, .iadd, 1), (31, .iconst 3, 1), (32, .irem, 1), (33, .iadd, 1), (34, .istore 4, 2), (36, .iinc 5 1, 3), (39, .goto (-33), 3), (42, .iload 4, 2), (44, .invokestatic 198, 3), (47, .iconst 2, 1), (48, .if_icmp .ne 15, 3), (51, .aload_n 0, 1), (52, .iload 4, 2), (54, .iload 4, 2), (56, .iconst 1, 1), (57, .invokevirtual 201, 3), (60, .goto 10, 3), (63, .aload_n 0, 1), (64, .getfield 24, 3), (67, .iload 4, 2), (69, .iaload, 1), (70, .ireturn, 1)] : List (Nat × Instr × Nat)), decode cX12_sum t.1 = .ok (t.2.1, t.2.2) := by decide +kernel
noncomputable def f_X12_sum_6 (rec : OS → Int32 → Int32 → Int32 → Option (Int32)) (s_t : OS) (b1 : Int32) (b2 : Int32) (b3 : Int32) : (Int32 × Int32) → Option ((Int32 × Int32) ⊕ (Int32)) := fun z => match z with | (b4, b5) => (if 4 ≤ b5 then some (.inr b4) else (f_X12_figure b1 b5).bind (fun x2 => (f_X12_figure b2 b5).bind (fun x5 => bnd (((3 : Int32) * b4) + ((x2 + (b3 * x5)) - (x2 + (b3 * x5)) / 3 * 3) : Int32) (fun v8 => bnd (b5 + 1 : Int32) (fun v10 => some (.inl ((v8, v10))))))))
noncomputable def f_X12_sum_T (rec : OS → Int32 → Int32 → Int32 → Option (Int32)) (st : OS) (a0 : Int32) (a1 : Int32) (a2 : Int32) : Option (Int32) := (lpv (f_X12_sum_6 rec st a0 a1 a2) ((0, 0))).bind (fun x12 => (f_X12_first x12).bind (fun x15 => (if x15 = 2 then (rec st x12 x12 1).bind (fun x20 => some x20) else if inb x12 81 = true then some (st.2.2.1 18 (x12 : Int32).toNatClampNeg) else none)))
noncomputable def f_X12_sum : Nat → OS → Int32 → Int32 → Int32 → Option (Int32)
  | 0 => fun _ _ _ _ => none
  | d + 1 => f_X12_sum_T (f_X12_sum d)
set_option maxHeartbeats 4000000 in
set_option maxRecDepth 100000 in
theorem w_X12_sum_6 {p : Program} {l : Launch} {e : Env} {s : State} {m : MethodId} {args : Array Value} {below : List Frame} {meth : Method} {c : Code} {Q : State → Prop} {G : mG} {h : mM} {q : Nat → Nat} (hq : oinj LX12 q) {d : Nat} {rec : OS → Int32 → Int32 → Int32 → Option (Int32)} (ih : ∀ (st : OS) (a0 : Int32) (a1 : Int32) (a2 : Int32) (x : Int32), rec st a0 a1 a2 = some x → cQ l G yX12_sum cX12_sum 6 (some FieldType.int) (rm_X12_sum d) [.ref (q 53), .int a0, .int a1, .int a2] (oset LX12 G q st h) (mQi G (fun r h1 => r = x ∧ h1 = oset LX12 G q st h))) (X : mX G p m c cX12_sum 6 s args RX12) (s_t : OS) (b1 : Int32) (b2 : Int32) (b3 : Int32) : ∀ (z : Int32 × Int32) (r : Int32), lpv (f_X12_sum_6 rec s_t b1 b2 b3) z = some r → ∀ (H : Heap) (locs : List Loc) (ls : Array Slot), mH G (oset LX12 G q s_t h) s.heap H locs → lv_has ls 6 [(0, .ref (q 53)), (1, .int b1), (2, .int b2), (3, .int b3), (4, .int z.1), (5, .int z.2)] → (∀ (H : Heap) (locs : List Loc) (ls : Array Slot), mH G (oset LX12 G q s_t h) s.heap H locs → lv_has ls 6 [(0, .ref (q 53)), (4, .int r)] → W p l e (rm_X12_sum (d + 1)) s m args below meth c H locs 0 0 Q (F0 m 42 ls [])) → W p l e (rm_X12_sum (d + 1)) s m args below meth c H locs 0 0 Q (F0 m 6 ls []) := by
  refine lpv_rec ?_
  intro z r x hF hx H locs ls hH hl K0
  obtain ⟨b4, b5⟩ := z
  dsimp only [f_X12_sum_6] at hF
  try dsimp only at hH hl
  refine lv_iload X.x X.b (dk DX12_sum_0 4 rfl) (lv_at hl 5 rfl) ?_
  refine lv_iconst (v := 4) X.x X.b (dk DX12_sum_0 5 rfl) (by decide) ?_
  refine lv_icmp_ge (tgt := 42) X.x X.b (dk DX12_sum_0 6 rfl) (by decide) (fun c1 => ?_) (fun c1 => ?_)
  · replace hF := if_t hF c1
    have hr9 := lp_r hF hx
    subst hr9
    exact K0 _ _ _ hH (lv_sub hl [0, 4] rfl)
  · replace hF := if_f hF c1
    refine lv_iconst (v := 3) X.x X.b (dk DX12_sum_0 7 rfl) (by decide) ?_
    refine lv_iload X.x X.b (dk DX12_sum_0 8 rfl) (lv_at hl 4 rfl) ?_
    refine lv_imul X.x X.b (dk DX12_sum_0 9 rfl) ?_
    refine lv_iload_n X.x X.b (dk DX12_sum_0 10 rfl) rfl (lv_at hl 1 rfl) ?_
    refine lv_iload X.x X.b (dk DX12_sum_0 11 rfl) (lv_at hl 5 rfl) ?_
    obtain ⟨x2, e3, hF⟩ := bd hF
    refine mr_ci0 hH ⟨rfl, rfl⟩ (mr_runS (As := [.int b1, .int b5]) (rest := [.int ((3 : Int32) * b4)]) X hH (c_X12_figure e3) kM_X12_195 kT_X12_figure kN_X12 kC_X12_figure hd_X12_figure ⟨by dsimp only [rm_X12_sum, rm_X12_figure]; omega, by dsimp only [rm_X12_sum, rm_X12_figure]; omega⟩ rfl hl.1 (Nat.le_of_ble_eq_true rfl) (dk DX12_sum_0 12 rfl) ⟨Nat.zero_le _, Nat.zero_le _⟩) (fun r h1 H locs hp hH => ?_)
    obtain ⟨hr1, hr2⟩ := hp; rw [hr1]; rw [hr2] at hH; clear hr1 hr2
    refine lv_iload_n X.x X.b (dk DX12_sum_0 13 rfl) rfl (lv_at hl 3 rfl) ?_
    refine lv_iload_n X.x X.b (dk DX12_sum_0 14 rfl) rfl (lv_at hl 2 rfl) ?_
    refine lv_iload X.x X.b (dk DX12_sum_0 15 rfl) (lv_at hl 5 rfl) ?_
    obtain ⟨x5, e6, hF⟩ := bd hF
    refine mr_ci0 hH ⟨rfl, rfl⟩ (mr_runS (As := [.int b2, .int b5]) (rest := [.int b3, .int x2, .int ((3 : Int32) * b4)]) X hH (c_X12_figure e6) kM_X12_195 kT_X12_figure kN_X12 kC_X12_figure hd_X12_figure ⟨by dsimp only [rm_X12_sum, rm_X12_figure]; omega, by dsimp only [rm_X12_sum, rm_X12_figure]; omega⟩ rfl hl.1 (Nat.le_of_ble_eq_true rfl) (dk DX12_sum_0 16 rfl) ⟨Nat.zero_le _, Nat.zero_le _⟩) (fun r h1 H locs hp hH => ?_)
    obtain ⟨hr1, hr2⟩ := hp; rw [hr1]; rw [hr2] at hH; clear hr1 hr2
    refine lv_imul X.x X.b (dk DX12_sum_0 17 rfl) ?_
    refine lv_iadd X.x X.b (dk DX12_sum_0 18 rfl) ?_
    refine lv_iconst (v := 3) X.x X.b (dk DX12_sum_0 19 rfl) (by decide) ?_
    refine lv_irem X.x X.b (dk DX12_sum_0 20 rfl) (by decide) ?_
    refine lv_iadd X.x X.b (dk DX12_sum_0 21 rfl) ?_
    refine lv_topi (fun v8 e9 => ?_)
    replace hF := bnd_e hF e9
    refine lv_istore (lv' := [(4, .int v8), (0, .ref (q 53)), (1, .int b1), (2, .int b2), (3, .int b3), (5, .int b5)]) X.x X.b (dk DX12_sum_0 22 rfl) hl (by decide) rfl (fun ls hl => ?_)
    replace hl : lv_has ls 6 [(0, .ref (q 53)), (1, .int b1), (2, .int b2), (3, .int b3), (4, .int v8), (5, .int b5)] := lv_sub hl [1, 2, 3, 4, 0, 5] rfl
    obtain ⟨v10, e11⟩ : ∃ y : Int32, y = b5 + 1 := ⟨_, rfl⟩
    replace hF := bnd_e hF e11
    refine lv_iinc (v := v10) (lv' := [(5, .int v10), (0, .ref (q 53)), (1, .int b1), (2, .int b2), (3, .int b3), (4, .int v8)]) X.x X.b (dk DX12_sum_0 23 rfl) hl (k := 5) rfl (by rw [e11]; rfl) (by decide) rfl (fun ls hl => ?_)
    replace hl : lv_has ls 6 [(0, .ref (q 53)), (1, .int b1), (2, .int b2), (3, .int b3), (4, .int v8), (5, .int v10)] := lv_sub hl [1, 2, 3, 4, 5, 0] rfl
    refine lv_goto (tgt := 6) X.x X.b (dk DX12_sum_0 24 rfl) (by decide) ?_
    exact (lp_l hF hx) _ _ _ hH (lv_sub hl [0, 1, 2, 3, 4, 5] rfl) K0
set_option maxHeartbeats 4000000 in
set_option maxRecDepth 100000 in
theorem c_X12_sum {l : Launch} {G : mG} {h : mM} {q : Nat → Nat} (hq : oinj LX12 q) (d : Nat) : ∀ (st : OS) (a0 : Int32) (a1 : Int32) (a2 : Int32) (x : Int32), f_X12_sum d st a0 a1 a2 = some x → cQ l G yX12_sum cX12_sum 6 (some FieldType.int) (rm_X12_sum d) [.ref (q 53), .int a0, .int a1, .int a2] (oset LX12 G q st h) (mQi G (fun r h1 => r = x ∧ h1 = oset LX12 G q st h)) := by
  induction d with
  | zero => intro st a0 a1 a2 x hF; cases hF
  | succ d ih =>
    intro st a0 a1 a2 x hF
    have hF : f_X12_sum_T (f_X12_sum d) st a0 a1 a2 = some x := hF
    generalize f_X12_sum d = rec at hF ih
    refine mp_of (by decide +kernel) (Nat.le_of_ble_eq_true rfl) ?_
    intro p e s m below meth c X hr hlk hH hname ls hl
    dsimp only [f_X12_sum_T] at hF
    replace hl : lv_has ls 6 [(0, .ref (q 53)), (1, .int a0), (2, .int a1), (3, .int a2)] := hl
    refine lv_iconst (v := 0) X.x X.b (dk DX12_sum_0 0 rfl) (by decide) ?_
    refine lv_istore (lv' := [(4, .int 0), (0, .ref (q 53)), (1, .int a0), (2, .int a1), (3, .int a2)]) X.x X.b (dk DX12_sum_0 1 rfl) hl (by decide) rfl (fun ls hl => ?_)
    replace hl : lv_has ls 6 [(0, .ref (q 53)), (1, .int a0), (2, .int a1), (3, .int a2), (4, .int 0)] := lv_sub hl [1, 2, 3, 4, 0] rfl
    refine lv_iconst (v := 0) X.x X.b (dk DX12_sum_0 2 rfl) (by decide) ?_
    refine lv_istore (lv' := [(5, .int 0), (0, .ref (q 53)), (1, .int a0), (2, .int a1), (3, .int a2), (4, .int 0)]) X.x X.b (dk DX12_sum_0 3 rfl) hl (by decide) rfl (fun ls hl => ?_)
    replace hl : lv_has ls 6 [(0, .ref (q 53)), (1, .int a0), (2, .int a1), (3, .int a2), (4, .int 0), (5, .int 0)] := lv_sub hl [1, 2, 3, 4, 5, 0] rfl
    obtain ⟨x12, e13, hF⟩ := bd hF
    replace hl : lv_has ls 6 [(0, .ref (q 53)), (1, .int a0), (2, .int a1), (3, .int a2), (4, .int 0), (5, .int 0)] := lv_sub hl [0, 1, 2, 3, 4, 5] rfl
    refine w_X12_sum_6 hq ih X st a0 a1 a2 _ _ e13 _ _ _ hH hl (fun H locs ls hH hl => ?_)
    refine lv_iload X.x X.b (dk DX12_sum_0 25 rfl) (lv_at hl 1 rfl) ?_
    obtain ⟨x15, e16, hF⟩ := bd hF
    refine mr_ci0 hH ⟨rfl, rfl⟩ (mr_runS (As := [.int x12]) (rest := []) X hH (c_X12_first e16) kM_X12_198 kT_X12_first kN_X12 kC_X12_first hd_X12_first ⟨by dsimp only [rm_X12_sum, rm_X12_first]; omega, by dsimp only [rm_X12_sum, rm_X12_first]; omega⟩ rfl hl.1 (Nat.le_of_ble_eq_true rfl) (dk DX12_sum_0 26 rfl) ⟨Nat.zero_le _, Nat.zero_le _⟩) (fun r h1 H locs hp hH => ?_)
    obtain ⟨hr1, hr2⟩ := hp; rw [hr1]; rw [hr2] at hH; clear hr1 hr2
    refine lv_iconst (v := 2) X.x X.b (dk DX12_sum_0 27 rfl) (by decide) ?_
    refine lv_icmp_ne (tgt := 63) X.x X.b (dk DX12_sum_0 28 rfl) (by decide) (fun c18 => ?_) (fun c18 => ?_)
    · replace hF := if_f hF c18
      refine lv_aload_n X.x X.b (dk DX12_sum_0 35 rfl) rfl (lv_at hl 0 rfl) ?_
      refine og_getR (t := 0) OX12 X hq hH 18 (by decide) rfl kF_X12_24 (dk DX12_sum_0 36 rfl) ?_
      refine lv_iload X.x X.b (dk DX12_sum_0 37 rfl) (lv_at hl 1 rfl) ?_
      obtain ⟨c19, hF⟩ := gd hF
      refine og_iald X hq hH 18 (by decide) rfl (inb_in c19) (dk DX12_sum_0 38 rfl) ?_
      cases sm hF
      exact mr_iret X hr hlk hH ⟨rfl, rfl⟩ (dk DX12_sum_0 39 rfl)
    · replace hF := if_t hF c18
      refine lv_aload_n X.x X.b (dk DX12_sum_0 29 rfl) rfl (lv_at hl 0 rfl) ?_
      refine lv_iload X.x X.b (dk DX12_sum_0 30 rfl) (lv_at hl 1 rfl) ?_
      refine lv_iload X.x X.b (dk DX12_sum_0 31 rfl) (lv_at hl 1 rfl) ?_
      refine lv_iconst (v := 1) X.x X.b (dk DX12_sum_0 32 rfl) (by decide) ?_
      obtain ⟨x20, e21, hF⟩ := bd hF
      refine mr_ci0 hH ⟨rfl, rfl⟩ (mr_runV (As := [.int x12, .int x12, .int 1]) (rest := []) X hH (ih st x12 x12 1 _ e21) ((oset_at hq (Nat.le_refl _) ohas_N).trans (congrArg some ocell_N)) OX12.1 kM_X12_201 kI_X12_sum kS_X12_sum kN_X12 kC_X12_sum hd_X12_sum ⟨by dsimp only [rm_X12_sum, rm_X12_sum]; omega, by dsimp only [rm_X12_sum, rm_X12_sum]; omega⟩ rfl hl.1 (Nat.le_of_ble_eq_true rfl) (dk DX12_sum_0 33 rfl) ⟨Nat.zero_le _, Nat.zero_le _⟩) (fun r h1 H locs hp hH => ?_)
      obtain ⟨hr1, hr2⟩ := hp; rw [hr1]; rw [hr2] at hH; clear hr1 hr2
      refine lv_goto (tgt := 70) X.x X.b (dk DX12_sum_0 34 rfl) (by decide) ?_
      cases sm hF
      exact mr_iret X hr hlk hH ⟨rfl, rfl⟩ (dk DX12_sum_0 39 rfl)
-- X12_areJoined
abbrev rm_X12_areJoined : Room := { frames := 1, cells := 0, slots := 0, locals := 21 }
theorem hd_X12_areJoined : mHd yX12_areJoined 2 := ⟨by decide +kernel, by decide +kernel, by decide +kernel⟩
theorem DX12_areJoined_0 : ∀ t ∈ ([(0, .iload_n 0, 1), (1, .iconst 0, 1), (2, .invokestatic 195, 3), (5, .iload_n 1, 1), (6, .iconst 1, 1), (7, .invokestatic 195, 3), (10, .imul, 1), (11, .iload_n 0, 1), (12, .iconst 1, 1), (13, .invokestatic 195, 3), (16, .iload_n 1, 1), (17, .iconst 0, 1), (18, .invokestatic 195, 3), (21, .imul, 1), (22, .isub, 1), (23, .iload_n 0, 1), (24, .iconst 2, 1), (25, .invokestatic 195, 3), (28, .iload_n 1, 1), (29, .iconst 3, 1), (30, .invokestatic 195, 3), (33, .imul, 1), (34, .iadd, 1), (35, .iload_n 0, 1), (36, .iconst 3, 1), (37, .invokestatic 195, 3), (40, .iload_n 1, 1), (41, .iconst 2, 1), (42, .invokestatic 195, 3), (45, .imul, 1), (46, .isub, 1), (47, .istore_n 2, 1), (48, .iload_n 2, 1), (49, .iconst 3, 1), (50, .irem, 1), (51, .ifCond .ne 7, 3), (54, .iconst 1, 1), (55, .goto 4, 3), (58, .iconst 0, 1), (59, .ireturn, 1)] : List (Nat × Instr × Nat)), decode cX12_areJoined t.1 = .ok (t.2.1, t.2.2) := by decide +kernel
noncomputable def f_X12_areJoined (a0 : Int32) (a1 : Int32) : Option (Int32) := (f_X12_figure a0 0).bind (fun x1 => (f_X12_figure a1 1).bind (fun x4 => (f_X12_figure a0 1).bind (fun x7 => (f_X12_figure a1 0).bind (fun x10 => (f_X12_figure a0 2).bind (fun x13 => (f_X12_figure a1 3).bind (fun x16 => (f_X12_figure a0 3).bind (fun x19 => (f_X12_figure a1 2).bind (fun x22 => bnd ((((x1 * x4) - (x7 * x10)) + (x13 * x16)) - (x19 * x22) : Int32) (fun v25 => (if (v25 - v25 / 3 * 3) = 0 then some 1 else some 0))))))))))
set_option maxHeartbeats 4000000 in
set_option maxRecDepth 100000 in
theorem c_X12_areJoined {l : Launch} {G : mG} {h : mM}  {a0 : Int32} {a1 : Int32} {x : Int32} (hF : f_X12_areJoined a0 a1 = some x) : cQ l G yX12_areJoined cX12_areJoined 3 (some FieldType.boolean) rm_X12_areJoined [.int a0, .int a1] (h) (mQi G (fun r h1 => r = x ∧ h1 = h)) := by
  refine mp_of (by decide +kernel) (Nat.le_of_ble_eq_true rfl) ?_
  intro p e s m below meth c X hr hlk hH hname ls hl
  dsimp only [f_X12_areJoined] at hF
  replace hl : lv_has ls 3 [(0, .int a0), (1, .int a1)] := hl
  refine lv_iload_n X.x X.b (dk DX12_areJoined_0 0 rfl) rfl (lv_at hl 0 rfl) ?_
  refine lv_iconst (v := 0) X.x X.b (dk DX12_areJoined_0 1 rfl) (by decide) ?_
  obtain ⟨x1, e2, hF⟩ := bd hF
  refine mr_ci0 hH ⟨rfl, rfl⟩ (mr_runS (As := [.int a0, .int 0]) (rest := []) X hH (c_X12_figure e2) kM_X12_195 kT_X12_figure kN_X12 kC_X12_figure hd_X12_figure ⟨Nat.le_of_ble_eq_true rfl, Nat.le_of_ble_eq_true rfl⟩ rfl hl.1 (Nat.le_of_ble_eq_true rfl) (dk DX12_areJoined_0 2 rfl) ⟨Nat.zero_le _, Nat.zero_le _⟩) (fun r h1 H locs hp hH => ?_)
  obtain ⟨hr1, hr2⟩ := hp; rw [hr1]; rw [hr2] at hH; clear hr1 hr2
  refine lv_iload_n X.x X.b (dk DX12_areJoined_0 3 rfl) rfl (lv_at hl 1 rfl) ?_
  refine lv_iconst (v := 1) X.x X.b (dk DX12_areJoined_0 4 rfl) (by decide) ?_
  obtain ⟨x4, e5, hF⟩ := bd hF
  refine mr_ci0 hH ⟨rfl, rfl⟩ (mr_runS (As := [.int a1, .int 1]) (rest := [.int x1]) X hH (c_X12_figure e5) kM_X12_195 kT_X12_figure kN_X12 kC_X12_figure hd_X12_figure ⟨Nat.le_of_ble_eq_true rfl, Nat.le_of_ble_eq_true rfl⟩ rfl hl.1 (Nat.le_of_ble_eq_true rfl) (dk DX12_areJoined_0 5 rfl) ⟨Nat.zero_le _, Nat.zero_le _⟩) (fun r h1 H locs hp hH => ?_)
  obtain ⟨hr1, hr2⟩ := hp; rw [hr1]; rw [hr2] at hH; clear hr1 hr2
  refine lv_imul X.x X.b (dk DX12_areJoined_0 6 rfl) ?_
  refine lv_iload_n X.x X.b (dk DX12_areJoined_0 7 rfl) rfl (lv_at hl 0 rfl) ?_
  refine lv_iconst (v := 1) X.x X.b (dk DX12_areJoined_0 8 rfl) (by decide) ?_
  obtain ⟨x7, e8, hF⟩ := bd hF
  refine mr_ci0 hH ⟨rfl, rfl⟩ (mr_runS (As := [.int a0, .int 1]) (rest := [.int (x1 * x4)]) X hH (c_X12_figure e8) kM_X12_195 kT_X12_figure kN_X12 kC_X12_figure hd_X12_figure ⟨Nat.le_of_ble_eq_true rfl, Nat.le_of_ble_eq_true rfl⟩ rfl hl.1 (Nat.le_of_ble_eq_true rfl) (dk DX12_areJoined_0 9 rfl) ⟨Nat.zero_le _, Nat.zero_le _⟩) (fun r h1 H locs hp hH => ?_)
  obtain ⟨hr1, hr2⟩ := hp; rw [hr1]; rw [hr2] at hH; clear hr1 hr2
  refine lv_iload_n X.x X.b (dk DX12_areJoined_0 10 rfl) rfl (lv_at hl 1 rfl) ?_
  refine lv_iconst (v := 0) X.x X.b (dk DX12_areJoined_0 11 rfl) (by decide) ?_
  obtain ⟨x10, e11, hF⟩ := bd hF
  refine mr_ci0 hH ⟨rfl, rfl⟩ (mr_runS (As := [.int a1, .int 0]) (rest := [.int x7, .int (x1 * x4)]) X hH (c_X12_figure e11) kM_X12_195 kT_X12_figure kN_X12 kC_X12_figure hd_X12_figure ⟨Nat.le_of_ble_eq_true rfl, Nat.le_of_ble_eq_true rfl⟩ rfl hl.1 (Nat.le_of_ble_eq_true rfl) (dk DX12_areJoined_0 12 rfl) ⟨Nat.zero_le _, Nat.zero_le _⟩) (fun r h1 H locs hp hH => ?_)
  obtain ⟨hr1, hr2⟩ := hp; rw [hr1]; rw [hr2] at hH; clear hr1 hr2
  refine lv_imul X.x X.b (dk DX12_areJoined_0 13 rfl) ?_
  refine lv_isub X.x X.b (dk DX12_areJoined_0 14 rfl) ?_
  refine lv_iload_n X.x X.b (dk DX12_areJoined_0 15 rfl) rfl (lv_at hl 0 rfl) ?_
  refine lv_iconst (v := 2) X.x X.b (dk DX12_areJoined_0 16 rfl) (by decide) ?_
  obtain ⟨x13, e14, hF⟩ := bd hF
  refine mr_ci0 hH ⟨rfl, rfl⟩ (mr_runS (As := [.int a0, .int 2]) (rest := [.int ((x1 * x4) - (x7 * x10))]) X hH (c_X12_figure e14) kM_X12_195 kT_X12_figure kN_X12 kC_X12_figure hd_X12_figure ⟨Nat.le_of_ble_eq_true rfl, Nat.le_of_ble_eq_true rfl⟩ rfl hl.1 (Nat.le_of_ble_eq_true rfl) (dk DX12_areJoined_0 17 rfl) ⟨Nat.zero_le _, Nat.zero_le _⟩) (fun r h1 H locs hp hH => ?_)
  obtain ⟨hr1, hr2⟩ := hp; rw [hr1]; rw [hr2] at hH; clear hr1 hr2
  refine lv_iload_n X.x X.b (dk DX12_areJoined_0 18 rfl) rfl (lv_at hl 1 rfl) ?_
  refine lv_iconst (v := 3) X.x X.b (dk DX12_areJoined_0 19 rfl) (by decide) ?_
  obtain ⟨x16, e17, hF⟩ := bd hF
  refine mr_ci0 hH ⟨rfl, rfl⟩ (mr_runS (As := [.int a1, .int 3]) (rest := [.int x13, .int ((x1 * x4) - (x7 * x10))]) X hH (c_X12_figure e17) kM_X12_195 kT_X12_figure kN_X12 kC_X12_figure hd_X12_figure ⟨Nat.le_of_ble_eq_true rfl, Nat.le_of_ble_eq_true rfl⟩ rfl hl.1 (Nat.le_of_ble_eq_true rfl) (dk DX12_areJoined_0 20 rfl) ⟨Nat.zero_le _, Nat.zero_le _⟩) (fun r h1 H locs hp hH => ?_)
  obtain ⟨hr1, hr2⟩ := hp; rw [hr1]; rw [hr2] at hH; clear hr1 hr2
  refine lv_imul X.x X.b (dk DX12_areJoined_0 21 rfl) ?_
  refine lv_iadd X.x X.b (dk DX12_areJoined_0 22 rfl) ?_
  refine lv_iload_n X.x X.b (dk DX12_areJoined_0 23 rfl) rfl (lv_at hl 0 rfl) ?_
  refine lv_iconst (v := 3) X.x X.b (dk DX12_areJoined_0 24 rfl) (by decide) ?_
  obtain ⟨x19, e20, hF⟩ := bd hF
  refine mr_ci0 hH ⟨rfl, rfl⟩ (mr_runS (As := [.int a0, .int 3]) (rest := [.int (((x1 * x4) - (x7 * x10)) + (x13 * x16))]) X hH (c_X12_figure e20) kM_X12_195 kT_X12_figure kN_X12 kC_X12_figure hd_X12_figure ⟨Nat.le_of_ble_eq_true rfl, Nat.le_of_ble_eq_true rfl⟩ rfl hl.1 (Nat.le_of_ble_eq_true rfl) (dk DX12_areJoined_0 25 rfl) ⟨Nat.zero_le _, Nat.zero_le _⟩) (fun r h1 H locs hp hH => ?_)
  obtain ⟨hr1, hr2⟩ := hp; rw [hr1]; rw [hr2] at hH; clear hr1 hr2
  refine lv_iload_n X.x X.b (dk DX12_areJoined_0 26 rfl) rfl (lv_at hl 1 rfl) ?_
  refine lv_iconst (v := 2) X.x X.b (dk DX12_areJoined_0 27 rfl) (by decide) ?_
  obtain ⟨x22, e23, hF⟩ := bd hF
  refine mr_ci0 hH ⟨rfl, rfl⟩ (mr_runS (As := [.int a1, .int 2]) (rest := [.int x19, .int (((x1 * x4) - (x7 * x10)) + (x13 * x16))]) X hH (c_X12_figure e23) kM_X12_195 kT_X12_figure kN_X12 kC_X12_figure hd_X12_figure ⟨Nat.le_of_ble_eq_true rfl, Nat.le_of_ble_eq_true rfl⟩ rfl hl.1 (Nat.le_of_ble_eq_true rfl) (dk DX12_areJoined_0 28 rfl) ⟨Nat.zero_le _, Nat.zero_le _⟩) (fun r h1 H locs hp hH => ?_)
  obtain ⟨hr1, hr2⟩ := hp; rw [hr1]; rw [hr2] at hH; clear hr1 hr2
  refine lv_imul X.x X.b (dk DX12_areJoined_0 29 rfl) ?_
  refine lv_isub X.x X.b (dk DX12_areJoined_0 30 rfl) ?_
  refine lv_topi (fun v25 e26 => ?_)
  replace hF := bnd_e hF e26
  refine lv_istore_n (lv' := [(2, .int v25), (0, .int a0), (1, .int a1)]) X.x X.b (dk DX12_areJoined_0 31 rfl) rfl hl (by decide) rfl (fun ls hl => ?_)
  replace hl : lv_has ls 3 [(2, .int v25)] := lv_sub hl [0] rfl
  refine lv_iload_n X.x X.b (dk DX12_areJoined_0 32 rfl) rfl (lv_at hl 0 rfl) ?_
  refine lv_iconst (v := 3) X.x X.b (dk DX12_areJoined_0 33 rfl) (by decide) ?_
  refine lv_irem X.x X.b (dk DX12_areJoined_0 34 rfl) (by decide) ?_
  refine lv_if_ne (tgt := 58) X.x X.b (dk DX12_areJoined_0 35 rfl) (by decide) (fun c27 => ?_) (fun c27 => ?_)
  · replace hF := if_f hF c27
    refine lv_iconst (v := 0) X.x X.b (dk DX12_areJoined_0 38 rfl) (by decide) ?_
    cases sm hF
    exact mr_zret X hr hlk hH rfl ⟨rfl, rfl⟩ (dk DX12_areJoined_0 39 rfl)
  · replace hF := if_t hF c27
    refine lv_iconst (v := 1) X.x X.b (dk DX12_areJoined_0 36 rfl) (by decide) ?_
    refine lv_goto (tgt := 59) X.x X.b (dk DX12_areJoined_0 37 rfl) (by decide) ?_
    cases sm hF
    exact mr_zret X hr hlk hH rfl ⟨rfl, rfl⟩ (dk DX12_areJoined_0 39 rfl)
-- X12_threes
abbrev rm_X12_threes : Room := { frames := 7, cells := 0, slots := 0, locals := 166 }
theorem hd_X12_threes : mHd yX12_threes 0 := ⟨by decide +kernel, by decide +kernel, by decide +kernel⟩
theorem DX12_threes_0 : ∀ t ∈ ([(0, .iconst 0, 1), (1, .istore_n 1, 1), (2, .iconst 0, 1), (3, .istore_n 2, 1), (4, .iload_n 2, 1), (5, .bipush 81, 2), (7, .if_icmp .ge 44, 3), (10, .aload_n 0, 1), (11, .getfield 24, 3), (14, .iload_n 2, 1), (15, .iconst (-1), 1), (16, .iastore, 1), (17, .iload_n 2, 1), (18, .invokestatic 198, 3), (21, .iconst 1, 1), (22, .if_icmp .eq 6, 3), (25, .goto 20, 3), (28, .aload_n 0, 1), (29, .getfield 24, 3), (32, .iload_n 2, 1), (33, .iload_n 1, 1), (34, .iastore, 1), (35, .aload_n 0, 1), (36, .getfield 27, 3), (39, .iload_n 1, 1), (40, .iload_n 2, 1), (41, .iastore, 1), (42, .iinc 1 1, 3), (45, .iinc 2 1, 3), (48, .goto (-44), 3), (51, .aload_n 0, 1), (52, .iload_n 1, 1), (53, .putfield 189, 3), (56, .iconst 0, 1), (57, .istore_n 2, 1), (58, .iload_n 2, 1), (59, .iload_n 1, 1), (60, .if_icmp .ge 120, 3), (63, .iload_n 2, 1), (64, .iconst 1, 1), (65, .iadd, 1), (66, .istore_n 3, 1), (67, .iload_n 3, 1), (68, .iload_n 1, 1), (69, .if_icmp .ge 105, 3), (72, .aload_n 0, 1), (73, .getfield 27, 3), (76, .iload_n 2, 1), (77, .iaload, 1), (78, .aload_n 0, 1), (79, .getfield 27, 3), (82, .iload_n 3, 1), (83, .iaload, 1), (84, .invokestatic 205, 3), (87, .ifCond .ne 6, 3), (90, .goto 78, 3), (93, .aload_n 0, 1), (94, .aload_n 0, 1), (95, .getfield 27, 3), (98, .iload_n 2, 1)] : List (Nat × Instr × Nat)), decode cX12_threes t.1 = .ok (t.2.1, t.2.2) := by decide +kernel
theorem DX12_threes_1 : ∀ t ∈ ([(99, .iaload, 1), (100, .aload_n 0, 1), (101, .getfield 27, 3), (104, .iload_n 3, 1), (105, .iaload, 1), (106, .iconst 1, 1), (107, .invokevirtual 201, 3), (110, .istore 4, 2), (112, .aload_n 0, 1), (113, .aload_n 0, 1), (114, .getfield 27, 3), (117, .iload_n 2, 1), (118, .iaload, 1), (119, .aload_n 0, 1), (120, .getfield 27, 3), (123, .iload_n 3, 1), (124, .iaload, 1), (125, .iconst 2, 1), (126, .invokevirtual 201, 3), (129, .istore 5, 2), (131, .iload 4, 2), (133, .iload_n 3, 1), (134, .if_icmp .le 34, 3), (137, .iload 5, 2), (139, .iload_n 3, 1), (140, .if_icmp .le 28, 3), (143, .aload_n 0, 1), (144, .iload_n 2, 1), (145, .invokestatic 111, 3), (148, .iload_n 3, 1), (149, .invokestatic 111, 3), (152, .lor, 1), (153, .iload 4, 2), (155, .invokestatic 111, 3), (158, .lor, 1), (159, .iload 5, 2), (161, .invokestatic 111, 3), (164, .lor, 1), (165, .invokevirtual 182, 3), (168, .iinc 3 1, 3), (171, .goto (-104), 3), (174, .iinc 2 1, 3), (177, .goto (-119), 3), (180, .return_, 1)] : List (Nat × Instr × Nat)), decode cX12_threes t.1 = .ok (t.2.1, t.2.2) := by decide +kernel
noncomputable def f_X12_threes_4 : (OS × Int32 × Int32) → Option ((OS × Int32 × Int32) ⊕ (OS × Int32)) := fun z => match z with | (s_t, b1, b2) => (if 81 ≤ b2 then some (.inr ((s_t, b1))) else if inb b2 81 = true then bnd (oA s_t 18 (upd (s_t.2.2.1 18) (b2 : Int32).toNatClampNeg ((-1)))) (fun t3 => (f_X12_first b2).bind (fun x5 => (if x5 = 1 then bnd (oA t3 18 (upd (t3.2.2.1 18) (b2 : Int32).toNatClampNeg b1)) (fun t9 => if inb b1 40 = true then bnd (oA t9 19 (upd (t9.2.2.1 19) (b1 : Int32).toNatClampNeg b2)) (fun t12 => bnd (b1 + 1 : Int32) (fun v14 => bnd (b2 + 1 : Int32) (fun v16 => some (.inl ((t12, v14, v16)))))) else none) else bnd (b2 + 1 : Int32) (fun v18 => some (.inl ((t3, b1, v18))))))) else none)
noncomputable def f_X12_threes_67 (b1 : Int32) (b2 : Int32) : (OS × Int32) → Option ((OS × Int32) ⊕ (OS)) := fun z => match z with | (s_t, b3) => (if b1 ≤ b3 then some (.inr s_t) else if inb b2 40 = true then if inb b3 40 = true then (f_X12_areJoined (s_t.2.2.1 19 (b2 : Int32).toNatClampNeg) (s_t.2.2.1 19 (b3 : Int32).toNatClampNeg)).bind (fun x32 => (if x32 = 0 then bnd (b3 + 1 : Int32) (fun v65 => some (.inl ((s_t, v65)))) else (f_X12_sum 4 s_t (s_t.2.2.1 19 (b2 : Int32).toNatClampNeg) (s_t.2.2.1 19 (b3 : Int32).toNatClampNeg) 1).bind (fun x36 => (f_X12_sum 4 s_t (s_t.2.2.1 19 (b2 : Int32).toNatClampNeg) (s_t.2.2.1 19 (b3 : Int32).toNatClampNeg) 2).bind (fun x39 => (if x36 ≤ b3 then bnd (b3 + 1 : Int32) (fun v43 => some (.inl ((s_t, v43)))) else (if x39 ≤ b3 then bnd (b3 + 1 : Int32) (fun v46 => some (.inl ((s_t, v46)))) else (f_X12_bit b2).bind (fun x48 => (f_X12_bit b3).bind (fun x51 => (f_X12_bit x36).bind (fun x54 => (f_X12_bit x39).bind (fun x57 => (f_X12_puts s_t (((x48 ||| x51) ||| x54) ||| x57)).bind (fun x60 => bnd (b3 + 1 : Int32) (fun v63 => some (.inl ((x60, v63))))))))))))))) else none else none)
noncomputable def f_X12_threes_58 (b1 : Int32) : (OS × Int32) → Option ((OS × Int32) ⊕ (OS)) := fun z => match z with | (s_t, b2) => (if b1 ≤ b2 then some (.inr s_t) else bnd (b2 + 1 : Int32) (fun v27 => (lpv (f_X12_threes_67 b1 b2) ((s_t, v27))).bind (fun x67 => bnd (b2 + 1 : Int32) (fun v70 => some (.inl ((x67, v70)))))))
noncomputable def f_X12_threes (st : OS) : Option (OS) := (lpv (f_X12_threes_4) ((st, 0, 0))).bind (fun x20 => match x20 with | (t22, v23) => bnd (oI t22 15 v23) (fun t24 => (lpv (f_X12_threes_58 v23) ((t24, 0))).bind (fun x72 => some x72)))
set_option maxHeartbeats 4000000 in
set_option maxRecDepth 100000 in
theorem w_X12_threes_4 {p : Program} {l : Launch} {e : Env} {s : State} {m : MethodId} {args : Array Value} {below : List Frame} {meth : Method} {c : Code} {Q : State → Prop} {G : mG} {h : mM} {q : Nat → Nat} (hq : oinj LX12 q) (X : mX G p m c cX12_threes 6 s args RX12) : ∀ (z : OS × Int32 × Int32) (r : OS × Int32), lpv (f_X12_threes_4) z = some r → ∀ (H : Heap) (locs : List Loc) (ls : Array Slot), mH G (oset LX12 G q z.1 h) s.heap H locs → lv_has ls 6 [(0, .ref (q 53)), (1, .int z.2.1), (2, .int z.2.2)] → (∀ (H : Heap) (locs : List Loc) (ls : Array Slot), mH G (oset LX12 G q r.1 h) s.heap H locs → lv_has ls 6 [(0, .ref (q 53)), (1, .int r.2)] → W p l e rm_X12_threes s m args below meth c H locs 0 0 Q (F0 m 51 ls [])) → W p l e rm_X12_threes s m args below meth c H locs 0 0 Q (F0 m 4 ls []) := by
  refine lpv_rec ?_
  intro z r x hF hx H locs ls hH hl K0
  obtain ⟨s_t, b1, b2⟩ := z
  dsimp only [f_X12_threes_4] at hF
  try dsimp only at hH hl
  refine lv_iload_n X.x X.b (dk DX12_threes_0 4 rfl) rfl (lv_at hl 2 rfl) ?_
  refine lv_bipush (v := 81) X.x X.b (dk DX12_threes_0 5 rfl) (by decide) ?_
  refine lv_icmp_ge (tgt := 51) X.x X.b (dk DX12_threes_0 6 rfl) (by decide) (fun c1 => ?_) (fun c1 => ?_)
  · replace hF := if_t hF c1
    have hr9 := lp_r hF hx
    subst hr9
    exact K0 _ _ _ hH (lv_sub hl [0, 1] rfl)
  · replace hF := if_f hF c1
    refine lv_aload_n X.x X.b (dk DX12_threes_0 7 rfl) rfl (lv_at hl 0 rfl) ?_
    refine og_getR (t := 0) OX12 X hq hH 18 (by decide) rfl kF_X12_24 (dk DX12_threes_0 8 rfl) ?_
    refine lv_iload_n X.x X.b (dk DX12_threes_0 9 rfl) rfl (lv_at hl 2 rfl) ?_
    refine lv_iconst (v := (-1)) X.x X.b (dk DX12_threes_0 10 rfl) (by decide) ?_
    obtain ⟨c2, hF⟩ := gd hF
    refine og_iast X hq hH 18 (by decide) rfl (inb_in c2) (dk DX12_threes_0 11 rfl) (fun H locs hH => ?_)
    obtain ⟨t3, e4⟩ : ∃ y, y = oA s_t 18 (upd (s_t.2.2.1 18) (b2 : Int32).toNatClampNeg ((-1))) := ⟨_, rfl⟩
    rw [← e4] at hH
    replace hF := bnd_e hF e4
    refine lv_iload_n X.x X.b (dk DX12_threes_0 12 rfl) rfl (lv_at hl 2 rfl) ?_
    obtain ⟨x5, e6, hF⟩ := bd hF
    refine mr_ci0 hH ⟨rfl, rfl⟩ (mr_runS (As := [.int b2]) (rest := []) X hH (c_X12_first e6) kM_X12_198 kT_X12_first kN_X12 kC_X12_first hd_X12_first ⟨Nat.le_of_ble_eq_true rfl, Nat.le_of_ble_eq_true rfl⟩ rfl hl.1 (Nat.le_of_ble_eq_true rfl) (dk DX12_threes_0 13 rfl) ⟨Nat.zero_le _, Nat.zero_le _⟩) (fun r h1 H locs hp hH => ?_)
    obtain ⟨hr1, hr2⟩ := hp; rw [hr1]; rw [hr2] at hH; clear hr1 hr2
    refine lv_iconst (v := 1) X.x X.b (dk DX12_threes_0 14 rfl) (by decide) ?_
    refine lv_icmp_eq (tgt := 28) X.x X.b (dk DX12_threes_0 15 rfl) (by decide) (fun c8 => ?_) (fun c8 => ?_)
    · replace hF := if_t hF c8
      refine lv_aload_n X.x X.b (dk DX12_threes_0 17 rfl) rfl (lv_at hl 0 rfl) ?_
      refine og_getR (t := 0) OX12 X hq hH 18 (by decide) rfl kF_X12_24 (dk DX12_threes_0 18 rfl) ?_
      refine lv_iload_n X.x X.b (dk DX12_threes_0 19 rfl) rfl (lv_at hl 2 rfl) ?_
      refine lv_iload_n X.x X.b (dk DX12_threes_0 20 rfl) rfl (lv_at hl 1 rfl) ?_
      refine og_iast X hq hH 18 (by decide) rfl (inb_in c2) (dk DX12_threes_0 21 rfl) (fun H locs hH => ?_)
      obtain ⟨t9, e10⟩ : ∃ y, y = oA t3 18 (upd (t3.2.2.1 18) (b2 : Int32).toNatClampNeg b1) := ⟨_, rfl⟩
      rw [← e10] at hH
      replace hF := bnd_e hF e10
      refine lv_aload_n X.x X.b (dk DX12_threes_0 22 rfl) rfl (lv_at hl 0 rfl) ?_
      refine og_getR (t := 0) OX12 X hq hH 19 (by decide) rfl kF_X12_27 (dk DX12_threes_0 23 rfl) ?_
      refine lv_iload_n X.x X.b (dk DX12_threes_0 24 rfl) rfl (lv_at hl 1 rfl) ?_
      refine lv_iload_n X.x X.b (dk DX12_threes_0 25 rfl) rfl (lv_at hl 2 rfl) ?_
      obtain ⟨c11, hF⟩ := gd hF
      refine og_iast X hq hH 19 (by decide) rfl (inb_in c11) (dk DX12_threes_0 26 rfl) (fun H locs hH => ?_)
      obtain ⟨t12, e13⟩ : ∃ y, y = oA t9 19 (upd (t9.2.2.1 19) (b1 : Int32).toNatClampNeg b2) := ⟨_, rfl⟩
      rw [← e13] at hH
      replace hF := bnd_e hF e13
      obtain ⟨v14, e15⟩ : ∃ y : Int32, y = b1 + 1 := ⟨_, rfl⟩
      replace hF := bnd_e hF e15
      refine lv_iinc (v := v14) (lv' := [(1, .int v14), (0, .ref (q 53)), (2, .int b2)]) X.x X.b (dk DX12_threes_0 27 rfl) hl (k := 1) rfl (by rw [e15]; rfl) (by decide) rfl (fun ls hl => ?_)
      replace hl : lv_has ls 6 [(0, .ref (q 53)), (1, .int v14), (2, .int b2)] := lv_sub hl [1, 0, 2] rfl
      obtain ⟨v16, e17⟩ : ∃ y : Int32, y = b2 + 1 := ⟨_, rfl⟩
      replace hF := bnd_e hF e17
      refine lv_iinc (v := v16) (lv' := [(2, .int v16), (0, .ref (q 53)), (1, .int v14)]) X.x X.b (dk DX12_threes_0 28 rfl) hl (k := 2) rfl (by rw [e17]; rfl) (by decide) rfl (fun ls hl => ?_)
      replace hl : lv_has ls 6 [(0, .ref (q 53)), (1, .int v14), (2, .int v16)] := lv_sub hl [1, 2, 0] rfl
      refine lv_goto (tgt := 4) X.x X.b (dk DX12_threes_0 29 rfl) (by decide) ?_
      exact (lp_l hF hx) _ _ _ hH (lv_sub hl [0, 1, 2] rfl) K0
    · replace hF := if_f hF c8
      refine lv_goto (tgt := 45) X.x X.b (dk DX12_threes_0 16 rfl) (by decide) ?_
      obtain ⟨v18, e19⟩ : ∃ y : Int32, y = b2 + 1 := ⟨_, rfl⟩
      replace hF := bnd_e hF e19
      refine lv_iinc (v := v18) (lv' := [(2, .int v18), (0, .ref (q 53)), (1, .int b1)]) X.x X.b (dk DX12_threes_0 28 rfl) hl (k := 2) rfl (by rw [e19]; rfl) (by decide) rfl (fun ls hl => ?_)
      replace hl : lv_has ls 6 [(0, .ref (q 53)), (1, .int b1), (2, .int v18)] := lv_sub hl [1, 2, 0] rfl
      refine lv_goto (tgt := 4) X.x X.b (dk DX12_threes_0 29 rfl) (by decide) ?_
      exact (lp_l hF hx) _ _ _ hH (lv_sub hl [0, 1, 2] rfl) K0
set_option maxHeartbeats 4000000 in
set_option maxRecDepth 100000 in
theorem w_X12_threes_67 {p : Program} {l : Launch} {e : Env} {s : State} {m : MethodId} {args : Array Value} {below : List Frame} {meth : Method} {c : Code} {Q : State → Prop} {G : mG} {h : mM} {q : Nat → Nat} (hq : oinj LX12 q) (X : mX G p m c cX12_threes 6 s args RX12) (b1 : Int32) (b2 : Int32) : ∀ (z : OS × Int32) (r : OS), lpv (f_X12_threes_67 b1 b2) z = some r → ∀ (H : Heap) (locs : List Loc) (ls : Array Slot), mH G (oset LX12 G q z.1 h) s.heap H locs → lv_has ls 6 [(0, .ref (q 53)), (1, .int b1), (2, .int b2), (3, .int z.2)] → (∀ (H : Heap) (locs : List Loc) (ls : Array Slot), mH G (oset LX12 G q r h) s.heap H locs → lv_has ls 6 [(0, .ref (q 53)), (1, .int b1), (2, .int b2)] → W p l e rm_X12_threes s m args below meth c H locs 0 0 Q (F0 m 174 ls [])) → W p l e rm_X12_threes s m args below meth c H locs 0 0 Q (F0 m 67 ls []) := by
  refine lpv_rec ?_
  intro z r x hF hx H locs ls hH hl K0
  obtain ⟨s_t, b3⟩ := z
  dsimp only [f_X12_threes_67] at hF
  try dsimp only at hH hl
  refine lv_iload_n X.x X.b (dk DX12_threes_0 42 rfl) rfl (lv_at hl 3 rfl) ?_
  refine lv_iload_n X.x X.b (dk DX12_threes_0 43 rfl) rfl (lv_at hl 1 rfl) ?_
  refine lv_icmp_ge (tgt := 174) X.x X.b (dk DX12_threes_0 44 rfl) (by decide) (fun c29 => ?_) (fun c29 => ?_)
  · replace hF := if_t hF c29
    have hr9 := lp_r hF hx
    subst hr9
    exact K0 _ _ _ hH (lv_sub hl [0, 1, 2] rfl)
  · replace hF := if_f hF c29
    refine lv_aload_n X.x X.b (dk DX12_threes_0 45 rfl) rfl (lv_at hl 0 rfl) ?_
    refine og_getR (t := 0) OX12 X hq hH 19 (by decide) rfl kF_X12_27 (dk DX12_threes_0 46 rfl) ?_
    refine lv_iload_n X.x X.b (dk DX12_threes_0 47 rfl) rfl (lv_at hl 2 rfl) ?_
    obtain ⟨c30, hF⟩ := gd hF
    refine og_iald X hq hH 19 (by decide) rfl (inb_in c30) (dk DX12_threes_0 48 rfl) ?_
    refine lv_aload_n X.x X.b (dk DX12_threes_0 49 rfl) rfl (lv_at hl 0 rfl) ?_
    refine og_getR (t := 0) OX12 X hq hH 19 (by decide) rfl kF_X12_27 (dk DX12_threes_0 50 rfl) ?_
    refine lv_iload_n X.x X.b (dk DX12_threes_0 51 rfl) rfl (lv_at hl 3 rfl) ?_
    obtain ⟨c31, hF⟩ := gd hF
    refine og_iald X hq hH 19 (by decide) rfl (inb_in c31) (dk DX12_threes_0 52 rfl) ?_
    obtain ⟨x32, e33, hF⟩ := bd hF
    refine mr_ci0 hH ⟨rfl, rfl⟩ (mr_runS (As := [.int (s_t.2.2.1 19 (b2 : Int32).toNatClampNeg), .int (s_t.2.2.1 19 (b3 : Int32).toNatClampNeg)]) (rest := []) X hH (c_X12_areJoined e33) kM_X12_205 kT_X12_areJoined kN_X12 kC_X12_areJoined hd_X12_areJoined ⟨Nat.le_of_ble_eq_true rfl, Nat.le_of_ble_eq_true rfl⟩ rfl hl.1 (Nat.le_of_ble_eq_true rfl) (dk DX12_threes_0 53 rfl) ⟨Nat.zero_le _, Nat.zero_le _⟩) (fun r h1 H locs hp hH => ?_)
    obtain ⟨hr1, hr2⟩ := hp; rw [hr1]; rw [hr2] at hH; clear hr1 hr2
    refine lv_if_ne (tgt := 93) X.x X.b (dk DX12_threes_0 54 rfl) (by decide) (fun c35 => ?_) (fun c35 => ?_)
    · replace hF := if_f hF c35
      refine lv_aload_n X.x X.b (dk DX12_threes_0 56 rfl) rfl (lv_at hl 0 rfl) ?_
      refine lv_aload_n X.x X.b (dk DX12_threes_0 57 rfl) rfl (lv_at hl 0 rfl) ?_
      refine og_getR (t := 0) OX12 X hq hH 19 (by decide) rfl kF_X12_27 (dk DX12_threes_0 58 rfl) ?_
      refine lv_iload_n X.x X.b (dk DX12_threes_0 59 rfl) rfl (lv_at hl 2 rfl) ?_
      refine og_iald X hq hH 19 (by decide) rfl (inb_in c30) (dk DX12_threes_1 0 rfl) ?_
      refine lv_aload_n X.x X.b (dk DX12_threes_1 1 rfl) rfl (lv_at hl 0 rfl) ?_
      refine og_getR (t := 0) OX12 X hq hH 19 (by decide) rfl kF_X12_27 (dk DX12_threes_1 2 rfl) ?_
      refine lv_iload_n X.x X.b (dk DX12_threes_1 3 rfl) rfl (lv_at hl 3 rfl) ?_
      refine og_iald X hq hH 19 (by decide) rfl (inb_in c31) (dk DX12_threes_1 4 rfl) ?_
      refine lv_iconst (v := 1) X.x X.b (dk DX12_threes_1 5 rfl) (by decide) ?_
      obtain ⟨x36, e37, hF⟩ := bd hF
      refine mr_ci0 hH ⟨rfl, rfl⟩ (mr_runV (As := [.int (s_t.2.2.1 19 (b2 : Int32).toNatClampNeg), .int (s_t.2.2.1 19 (b3 : Int32).toNatClampNeg), .int 1]) (rest := []) X hH (c_X12_sum hq 4 s_t (s_t.2.2.1 19 (b2 : Int32).toNatClampNeg) (s_t.2.2.1 19 (b3 : Int32).toNatClampNeg) 1 _ e37) ((oset_at hq (Nat.le_refl _) ohas_N).trans (congrArg some ocell_N)) OX12.1 kM_X12_201 kI_X12_sum kS_X12_sum kN_X12 kC_X12_sum hd_X12_sum ⟨Nat.le_of_ble_eq_true rfl, Nat.le_of_ble_eq_true rfl⟩ rfl hl.1 (Nat.le_of_ble_eq_true rfl) (dk DX12_threes_1 6 rfl) ⟨Nat.zero_le _, Nat.zero_le _⟩) (fun r h1 H locs hp hH => ?_)
      obtain ⟨hr1, hr2⟩ := hp; rw [hr1]; rw [hr2] at hH; clear hr1 hr2
      refine lv_istore (lv' := [(4, .int x36), (0, .ref (q 53)), (1, .int b1), (2, .int b2), (3, .int b3)]) X.x X.b (dk DX12_threes_1 7 rfl) hl (by decide) rfl (fun ls hl => ?_)
      replace hl : lv_has ls 6 [(0, .ref (q 53)), (1, .int b1), (2, .int b2), (3, .int b3), (4, .int x36)] := lv_sub hl [1, 2, 3, 4, 0] rfl
      refine lv_aload_n X.x X.b (dk DX12_threes_1 8 rfl) rfl (lv_at hl 0 rfl) ?_
      refine lv_aload_n X.x X.b (dk DX12_threes_1 9 rfl) rfl (lv_at hl 0 rfl) ?_
      refine og_getR (t := 0) OX12 X hq hH 19 (by decide) rfl kF_X12_27 (dk DX12_threes_1 10 rfl) ?_
      refine lv_iload_n X.x X.b (dk DX12_threes_1 11 rfl) rfl (lv_at hl 2 rfl) ?_
      refine og_iald X hq hH 19 (by decide) rfl (inb_in c30) (dk DX12_threes_1 12 rfl) ?_
      refine lv_aload_n X.x X.b (dk DX12_threes_1 13 rfl) rfl (lv_at hl 0 rfl) ?_
      refine og_getR (t := 0) OX12 X hq hH 19 (by decide) rfl kF_X12_27 (dk DX12_threes_1 14 rfl) ?_
      refine lv_iload_n X.x X.b (dk DX12_threes_1 15 rfl) rfl (lv_at hl 3 rfl) ?_
      refine og_iald X hq hH 19 (by decide) rfl (inb_in c31) (dk DX12_threes_1 16 rfl) ?_
      refine lv_iconst (v := 2) X.x X.b (dk DX12_threes_1 17 rfl) (by decide) ?_
      obtain ⟨x39, e40, hF⟩ := bd hF
      refine mr_ci0 hH ⟨rfl, rfl⟩ (mr_runV (As := [.int (s_t.2.2.1 19 (b2 : Int32).toNatClampNeg), .int (s_t.2.2.1 19 (b3 : Int32).toNatClampNeg), .int 2]) (rest := []) X hH (c_X12_sum hq 4 s_t (s_t.2.2.1 19 (b2 : Int32).toNatClampNeg) (s_t.2.2.1 19 (b3 : Int32).toNatClampNeg) 2 _ e40) ((oset_at hq (Nat.le_refl _) ohas_N).trans (congrArg some ocell_N)) OX12.1 kM_X12_201 kI_X12_sum kS_X12_sum kN_X12 kC_X12_sum hd_X12_sum ⟨Nat.le_of_ble_eq_true rfl, Nat.le_of_ble_eq_true rfl⟩ rfl hl.1 (Nat.le_of_ble_eq_true rfl) (dk DX12_threes_1 18 rfl) ⟨Nat.zero_le _, Nat.zero_le _⟩) (fun r h1 H locs hp hH => ?_)
      obtain ⟨hr1, hr2⟩ := hp; rw [hr1]; rw [hr2] at hH; clear hr1 hr2
      refine lv_istore (lv' := [(5, .int x39), (0, .ref (q 53)), (1, .int b1), (2, .int b2), (3, .int b3), (4, .int x36)]) X.x X.b (dk DX12_threes_1 19 rfl) hl (by decide) rfl (fun ls hl => ?_)
      replace hl : lv_has ls 6 [(0, .ref (q 53)), (1, .int b1), (2, .int b2), (3, .int b3), (4, .int x36), (5, .int x39)] := lv_sub hl [1, 2, 3, 4, 5, 0] rfl
      refine lv_iload X.x X.b (dk DX12_threes_1 20 rfl) (lv_at hl 4 rfl) ?_
      refine lv_iload_n X.x X.b (dk DX12_threes_1 21 rfl) rfl (lv_at hl 3 rfl) ?_
      refine lv_icmp_le (tgt := 168) X.x X.b (dk DX12_threes_1 22 rfl) (by decide) (fun c42 => ?_) (fun c42 => ?_)
      · replace hF := if_t hF c42
        obtain ⟨v43, e44⟩ : ∃ y : Int32, y = b3 + 1 := ⟨_, rfl⟩
        replace hF := bnd_e hF e44
        refine lv_iinc (v := v43) (lv' := [(3, .int v43), (0, .ref (q 53)), (1, .int b1), (2, .int b2), (4, .int x36), (5, .int x39)]) X.x X.b (dk DX12_threes_1 39 rfl) hl (k := 3) rfl (by rw [e44]; rfl) (by decide) rfl (fun ls hl => ?_)
        replace hl : lv_has ls 6 [(0, .ref (q 53)), (1, .int b1), (2, .int b2), (3, .int v43)] := lv_sub hl [1, 2, 3, 0] rfl
        refine lv_goto (tgt := 67) X.x X.b (dk DX12_threes_1 40 rfl) (by decide) ?_
        exact (lp_l hF hx) _ _ _ hH (lv_sub hl [0, 1, 2, 3] rfl) K0
      · replace hF := if_f hF c42
        refine lv_iload X.x X.b (dk DX12_threes_1 23 rfl) (lv_at hl 5 rfl) ?_
        refine lv_iload_n X.x X.b (dk DX12_threes_1 24 rfl) rfl (lv_at hl 3 rfl) ?_
        refine lv_icmp_le (tgt := 168) X.x X.b (dk DX12_threes_1 25 rfl) (by decide) (fun c45 => ?_) (fun c45 => ?_)
        · replace hF := if_t hF c45
          obtain ⟨v46, e47⟩ : ∃ y : Int32, y = b3 + 1 := ⟨_, rfl⟩
          replace hF := bnd_e hF e47
          refine lv_iinc (v := v46) (lv' := [(3, .int v46), (0, .ref (q 53)), (1, .int b1), (2, .int b2), (4, .int x36), (5, .int x39)]) X.x X.b (dk DX12_threes_1 39 rfl) hl (k := 3) rfl (by rw [e47]; rfl) (by decide) rfl (fun ls hl => ?_)
          replace hl : lv_has ls 6 [(0, .ref (q 53)), (1, .int b1), (2, .int b2), (3, .int v46)] := lv_sub hl [1, 2, 3, 0] rfl
          refine lv_goto (tgt := 67) X.x X.b (dk DX12_threes_1 40 rfl) (by decide) ?_
          exact (lp_l hF hx) _ _ _ hH (lv_sub hl [0, 1, 2, 3] rfl) K0
        · replace hF := if_f hF c45
          refine lv_aload_n X.x X.b (dk DX12_threes_1 26 rfl) rfl (lv_at hl 0 rfl) ?_
          refine lv_iload_n X.x X.b (dk DX12_threes_1 27 rfl) rfl (lv_at hl 2 rfl) ?_
          obtain ⟨x48, e49, hF⟩ := bd hF
          refine mr_cl0 hH ⟨rfl, rfl⟩ (mr_runS (As := [.int b2]) (rest := [.ref (q 53)]) X hH (c_X12_bit e49) kM_X12_111 kT_X12_bit kN_X12 kC_X12_bit hd_X12_bit ⟨Nat.le_of_ble_eq_true rfl, Nat.le_of_ble_eq_true rfl⟩ rfl hl.1 (Nat.le_of_ble_eq_true rfl) (dk DX12_threes_1 28 rfl) ⟨Nat.zero_le _, Nat.zero_le _⟩) (fun r h1 H locs hp hH => ?_)
          obtain ⟨hr1, hr2⟩ := hp; rw [hr1]; rw [hr2] at hH; clear hr1 hr2
          refine lv_iload_n X.x X.b (dk DX12_threes_1 29 rfl) rfl (lv_at hl 3 rfl) ?_
          obtain ⟨x51, e52, hF⟩ := bd hF
          refine mr_cl0 hH ⟨rfl, rfl⟩ (mr_runS (As := [.int b3]) (rest := [.long x48, .ref (q 53)]) X hH (c_X12_bit e52) kM_X12_111 kT_X12_bit kN_X12 kC_X12_bit hd_X12_bit ⟨Nat.le_of_ble_eq_true rfl, Nat.le_of_ble_eq_true rfl⟩ rfl hl.1 (Nat.le_of_ble_eq_true rfl) (dk DX12_threes_1 30 rfl) ⟨Nat.zero_le _, Nat.zero_le _⟩) (fun r h1 H locs hp hH => ?_)
          obtain ⟨hr1, hr2⟩ := hp; rw [hr1]; rw [hr2] at hH; clear hr1 hr2
          refine lv_lor X.x X.b (dk DX12_threes_1 31 rfl) ?_
          refine lv_iload X.x X.b (dk DX12_threes_1 32 rfl) (lv_at hl 4 rfl) ?_
          obtain ⟨x54, e55, hF⟩ := bd hF
          refine mr_cl0 hH ⟨rfl, rfl⟩ (mr_runS (As := [.int x36]) (rest := [.long (x48 ||| x51), .ref (q 53)]) X hH (c_X12_bit e55) kM_X12_111 kT_X12_bit kN_X12 kC_X12_bit hd_X12_bit ⟨Nat.le_of_ble_eq_true rfl, Nat.le_of_ble_eq_true rfl⟩ rfl hl.1 (Nat.le_of_ble_eq_true rfl) (dk DX12_threes_1 33 rfl) ⟨Nat.zero_le _, Nat.zero_le _⟩) (fun r h1 H locs hp hH => ?_)
          obtain ⟨hr1, hr2⟩ := hp; rw [hr1]; rw [hr2] at hH; clear hr1 hr2
          refine lv_lor X.x X.b (dk DX12_threes_1 34 rfl) ?_
          refine lv_iload X.x X.b (dk DX12_threes_1 35 rfl) (lv_at hl 5 rfl) ?_
          obtain ⟨x57, e58, hF⟩ := bd hF
          refine mr_cl0 hH ⟨rfl, rfl⟩ (mr_runS (As := [.int x39]) (rest := [.long ((x48 ||| x51) ||| x54), .ref (q 53)]) X hH (c_X12_bit e58) kM_X12_111 kT_X12_bit kN_X12 kC_X12_bit hd_X12_bit ⟨Nat.le_of_ble_eq_true rfl, Nat.le_of_ble_eq_true rfl⟩ rfl hl.1 (Nat.le_of_ble_eq_true rfl) (dk DX12_threes_1 36 rfl) ⟨Nat.zero_le _, Nat.zero_le _⟩) (fun r h1 H locs hp hH => ?_)
          obtain ⟨hr1, hr2⟩ := hp; rw [hr1]; rw [hr2] at hH; clear hr1 hr2
          refine lv_lor X.x X.b (dk DX12_threes_1 37 rfl) ?_
          obtain ⟨x60, e61, hF⟩ := bd hF
          refine mr_cv0 hH ⟨rfl, rfl⟩ (mr_runV (As := [.long (((x48 ||| x51) ||| x54) ||| x57)]) (rest := []) X hH (c_X12_puts hq e61) ((oset_at hq (Nat.le_refl _) ohas_N).trans (congrArg some ocell_N)) OX12.1 kM_X12_182 kI_X12_puts kS_X12_puts kN_X12 kC_X12_puts hd_X12_puts ⟨Nat.le_of_ble_eq_true rfl, Nat.le_of_ble_eq_true rfl⟩ rfl hl.1 (Nat.le_of_ble_eq_true rfl) (dk DX12_threes_1 38 rfl) ⟨Nat.zero_le _, Nat.zero_le _⟩) (fun h1 H locs hp hH => ?_)
          rw [hp] at hH; clear hp
          obtain ⟨v63, e64⟩ : ∃ y : Int32, y = b3 + 1 := ⟨_, rfl⟩
          replace hF := bnd_e hF e64
          refine lv_iinc (v := v63) (lv' := [(3, .int v63), (0, .ref (q 53)), (1, .int b1), (2, .int b2), (4, .int x36), (5, .int x39)]) X.x X.b (dk DX12_threes_1 39 rfl) hl (k := 3) rfl (by rw [e64]; rfl) (by decide) rfl (fun ls hl => ?_)
          replace hl : lv_has ls 6 [(0, .ref (q 53)), (1, .int b1), (2, .int b2), (3, .int v63)] := lv_sub hl [1, 2, 3, 0] rfl
          refine lv_goto (tgt := 67) X.x X.b (dk DX12_threes_1 40 rfl) (by decide) ?_
          exact (lp_l hF hx) _ _ _ hH (lv_sub hl [0, 1, 2, 3] rfl) K0
    · replace hF := if_t hF c35
      refine lv_goto (tgt := 168) X.x X.b (dk DX12_threes_0 55 rfl) (by decide) ?_
      obtain ⟨v65, e66⟩ : ∃ y : Int32, y = b3 + 1 := ⟨_, rfl⟩
      replace hF := bnd_e hF e66
      refine lv_iinc (v := v65) (lv' := [(3, .int v65), (0, .ref (q 53)), (1, .int b1), (2, .int b2)]) X.x X.b (dk DX12_threes_1 39 rfl) hl (k := 3) rfl (by rw [e66]; rfl) (by decide) rfl (fun ls hl => ?_)
      replace hl : lv_has ls 6 [(0, .ref (q 53)), (1, .int b1), (2, .int b2), (3, .int v65)] := lv_sub hl [1, 2, 3, 0] rfl
      refine lv_goto (tgt := 67) X.x X.b (dk DX12_threes_1 40 rfl) (by decide) ?_
      exact (lp_l hF hx) _ _ _ hH (lv_sub hl [0, 1, 2, 3] rfl) K0
set_option maxHeartbeats 4000000 in
set_option maxRecDepth 100000 in
theorem w_X12_threes_58 {p : Program} {l : Launch} {e : Env} {s : State} {m : MethodId} {args : Array Value} {below : List Frame} {meth : Method} {c : Code} {Q : State → Prop} {G : mG} {h : mM} {q : Nat → Nat} (hq : oinj LX12 q) (X : mX G p m c cX12_threes 6 s args RX12) (b1 : Int32) : ∀ (z : OS × Int32) (r : OS), lpv (f_X12_threes_58 b1) z = some r → ∀ (H : Heap) (locs : List Loc) (ls : Array Slot), mH G (oset LX12 G q z.1 h) s.heap H locs → lv_has ls 6 [(0, .ref (q 53)), (1, .int b1), (2, .int z.2)] → (∀ (H : Heap) (locs : List Loc) (ls : Array Slot), mH G (oset LX12 G q r h) s.heap H locs → lv_has ls 6 [] → W p l e rm_X12_threes s m args below meth c H locs 0 0 Q (F0 m 180 ls [])) → W p l e rm_X12_threes s m args below meth c H locs 0 0 Q (F0 m 58 ls []) := by
  refine lpv_rec ?_
  intro z r x hF hx H locs ls hH hl K0
  obtain ⟨s_t, b2⟩ := z
  dsimp only [f_X12_threes_58] at hF
  try dsimp only at hH hl
  refine lv_iload_n X.x X.b (dk DX12_threes_0 35 rfl) rfl (lv_at hl 2 rfl) ?_
  refine lv_iload_n X.x X.b (dk DX12_threes_0 36 rfl) rfl (lv_at hl 1 rfl) ?_
  refine lv_icmp_ge (tgt := 180) X.x X.b (dk DX12_threes_0 37 rfl) (by decide) (fun c26 => ?_) (fun c26 => ?_)
  · replace hF := if_t hF c26
    have hr9 := lp_r hF hx
    subst hr9
    exact K0 _ _ _ hH (lv_sub hl [] rfl)
  · replace hF := if_f hF c26
    refine lv_iload_n X.x X.b (dk DX12_threes_0 38 rfl) rfl (lv_at hl 2 rfl) ?_
    refine lv_iconst (v := 1) X.x X.b (dk DX12_threes_0 39 rfl) (by decide) ?_
    refine lv_iadd X.x X.b (dk DX12_threes_0 40 rfl) ?_
    refine lv_topi (fun v27 e28 => ?_)
    replace hF := bnd_e hF e28
    refine lv_istore_n (lv' := [(3, .int v27), (0, .ref (q 53)), (1, .int b1), (2, .int b2)]) X.x X.b (dk DX12_threes_0 41 rfl) rfl hl (by decide) rfl (fun ls hl => ?_)
    replace hl : lv_has ls 6 [(0, .ref (q 53)), (1, .int b1), (2, .int b2), (3, .int v27)] := lv_sub hl [1, 2, 3, 0] rfl
    obtain ⟨x67, e68, hF⟩ := bd hF
    replace hl : lv_has ls 6 [(0, .ref (q 53)), (1, .int b1), (2, .int b2), (3, .int v27)] := lv_sub hl [0, 1, 2, 3] rfl
    refine w_X12_threes_67 hq X b1 b2 _ _ e68 _ _ _ hH hl (fun H locs ls hH hl => ?_)
    obtain ⟨v70, e71⟩ : ∃ y : Int32, y = b2 + 1 := ⟨_, rfl⟩
    replace hF := bnd_e hF e71
    refine lv_iinc (v := v70) (lv' := [(2, .int v70), (0, .ref (q 53)), (1, .int b1)]) X.x X.b (dk DX12_threes_1 41 rfl) hl (k := 2) rfl (by rw [e71]; rfl) (by decide) rfl (fun ls hl => ?_)
    replace hl : lv_has ls 6 [(0, .ref (q 53)), (1, .int b1), (2, .int v70)] := lv_sub hl [1, 2, 0] rfl
    refine lv_goto (tgt := 58) X.x X.b (dk DX12_threes_1 42 rfl) (by decide) ?_
    exact (lp_l hF hx) _ _ _ hH (lv_sub hl [0, 1, 2] rfl) K0
set_option maxHeartbeats 4000000 in
set_option maxRecDepth 100000 in
theorem c_X12_threes {l : Launch} {G : mG} {h : mM} {q : Nat → Nat} (hq : oinj LX12 q) {st : OS} {x : OS} (hF : f_X12_threes st = some x) : cQ l G yX12_threes cX12_threes 6 none rm_X12_threes [.ref (q 53)] (oset LX12 G q st h) (mQv G (fun h1 => h1 = oset LX12 G q x h)) := by
  refine mp_of (by decide +kernel) (Nat.le_of_ble_eq_true rfl) ?_
  intro p e s m below meth c X hr hlk hH hname ls hl
  dsimp only [f_X12_threes] at hF
  replace hl : lv_has ls 6 [(0, .ref (q 53))] := hl
  refine lv_iconst (v := 0) X.x X.b (dk DX12_threes_0 0 rfl) (by decide) ?_
  refine lv_istore_n (lv' := [(1, .int 0), (0, .ref (q 53))]) X.x X.b (dk DX12_threes_0 1 rfl) rfl hl (by decide) rfl (fun ls hl => ?_)
  replace hl : lv_has ls 6 [(0, .ref (q 53)), (1, .int 0)] := lv_sub hl [1, 0] rfl
  refine lv_iconst (v := 0) X.x X.b (dk DX12_threes_0 2 rfl) (by decide) ?_
  refine lv_istore_n (lv' := [(2, .int 0), (0, .ref (q 53)), (1, .int 0)]) X.x X.b (dk DX12_threes_0 3 rfl) rfl hl (by decide) rfl (fun ls hl => ?_)
  replace hl : lv_has ls 6 [(0, .ref (q 53)), (1, .int 0), (2, .int 0)] := lv_sub hl [1, 2, 0] rfl
  obtain ⟨x20, e21, hF⟩ := bd hF
  replace hl : lv_has ls 6 [(0, .ref (q 53)), (1, .int 0), (2, .int 0)] := lv_sub hl [0, 1, 2] rfl
  obtain ⟨t22, v23⟩ := x20
  try dsimp only at hF
  refine w_X12_threes_4 hq X _ _ e21 _ _ _ hH hl (fun H locs ls hH hl => ?_)
  try dsimp only at hH hl
  refine lv_aload_n X.x X.b (dk DX12_threes_0 30 rfl) rfl (lv_at hl 0 rfl) ?_
  refine lv_iload_n X.x X.b (dk DX12_threes_0 31 rfl) rfl (lv_at hl 1 rfl) ?_
  refine og_putI OX12 X hq hH 15 (by decide) rfl kF_X12_189 rfl rfl rfl (dk DX12_threes_0 32 rfl) (fun H locs hH => ?_)
  obtain ⟨t24, e25⟩ : ∃ y, y = oI t22 15 v23 := ⟨_, rfl⟩
  rw [← e25] at hH
  replace hF := bnd_e hF e25
  refine lv_iconst (v := 0) X.x X.b (dk DX12_threes_0 33 rfl) (by decide) ?_
  refine lv_istore_n (lv' := [(2, .int 0), (0, .ref (q 53)), (1, .int v23)]) X.x X.b (dk DX12_threes_0 34 rfl) rfl hl (by decide) rfl (fun ls hl => ?_)
  replace hl : lv_has ls 6 [(0, .ref (q 53)), (1, .int v23), (2, .int 0)] := lv_sub hl [1, 2, 0] rfl
  obtain ⟨x72, e73, hF⟩ := bd hF
  replace hl : lv_has ls 6 [(0, .ref (q 53)), (1, .int v23), (2, .int 0)] := lv_sub hl [0, 1, 2] rfl
  refine w_X12_threes_58 hq X v23 _ _ e73 _ _ _ hH hl (fun H locs ls hH hl => ?_)
  cases sm hF
  exact mr_vret X hr hlk hH rfl (dk DX12_threes_1 43 rfl)
