theorem hd_L_world : mHd yL_world 3 := ⟨by decide +kernel, by decide +kernel, by decide +kernel⟩
theorem DL_world_0 : ∀ t ∈ ([(0, .aload_n 2, 1), (1, .iconst 0, 1), (2, .aload_n 0, 1), (3, .iload_n 1, 1), (4, .invokevirtual 7, 3), (7, .i2l, 1), (8, .lastore, 1), (9, .goto 6, 3), (12, .astore_n 3, 1), (13, .iconst 1, 1), (14, .ireturn, 1), (15, .iconst 0, 1), (16, .ireturn, 1)] : List (Nat × Instr × Nat)), decode cL_world t.1 = .ok (t.2.1, t.2.2) := by decide +kernel
abbrev rm_L_world : Room := { frames := 11, cells := 1, slots := 6, locals := 237 }
set_option maxHeartbeats 2000000 in
theorem c_L_world {l : Launch} {G : mG} {m : mM} {a : Nat} {fs : List Value} (ha : m a = some (.inr (LX11.1, fs))) {p0 : Int32} {post : Int32 → mM → Prop} {px : String → mM → Prop} (hM : xQ l G yX11_world cX11_world 2 (some FieldType.int) rm_X11_world [.ref a, .int p0] m (mQi G post) px) {ao : Nat} {fo : Nat → Int64} (hk : ∀ v m1, post v m1 → m1 ao = some (aJ G 1 fo)) (hx : ∀ E m1, px E m1 → E = exN 1) : hQ l G yL_world cL_world 4 (some .int) [(0, 9, 12, 13)] rm_L_world [.ref a, .int p0, .ref ao] m (mQi G (fun r m' => (r = 0 ∧ ∃ v m1, post v m1 ∧ m' = va_up m1 ao (some (aJ G 1 (vp_updL fo 0 (v.toInt64))))) ∨ ∃ E, px E m' ∧ ((E = exN 1 ∧ r = 1)))) := by
  refine hp_of (by decide +kernel) (Nat.le_of_ble_eq_true rfl) ?_
  intro p e s m9 below meth c X hr hlk htab hH ls hl
  replace hl : lv_has ls 4 [(0, .ref a), (1, .int p0), (2, .ref ao)] := hl
  refine lv_aload_n X.x X.b (dk DL_world_0 0 rfl) rfl (lv_at hl 2 rfl) ?_
  refine lv_iconst (v := 0) X.x X.b (dk DL_world_0 1 rfl) (by decide) ?_
  refine lv_aload_n X.x X.b (dk DL_world_0 2 rfl) rfl (lv_at hl 0 rfl) ?_
  refine lv_iload_n X.x X.b (dk DL_world_0 3 rfl) rfl (lv_at hl 1 rfl) ?_
  refine mr_xi hH (mr_xrunV (As := [.int p0]) (rest := [.int 0, .ref ao]) X hH hM ha OX11.1 kM_L_7 kI_X11_world kS_X11_world kN_X11 kC_X11_world hd_X11_world ⟨Nat.le_of_ble_eq_true rfl, Nat.le_of_ble_eq_true rfl⟩ rfl hl.1 (Nat.le_of_ble_eq_true rfl) (dk DL_world_0 4 rfl) ⟨Nat.le_of_ble_eq_true rfl, Nat.le_of_ble_eq_true rfl⟩) (fun E h1 q9 H locs hp hH hth => ?_) (fun v h1 H locs hp hH => ?_)
  · have hE := hx E h1 hp
    subst hE
    refine mr_catch (own := RL) X htab hth [] (0, 9, 12, 13) [] rfl (fun z hz => by cases hz) rfl (by decide) kL_L_13 kX_1 ?_
    refine lv_astore_n (lv' := [(3, .ref q9), (0, .ref a), (1, .int p0), (2, .ref ao)]) X.x X.b (dk DL_world_0 8 rfl) rfl hl (by decide) rfl (fun ls hl => ?_)
    replace hl : lv_has ls 4 [] := lv_sub hl [] rfl
    refine lv_iconst (v := 1) X.x X.b (dk DL_world_0 9 rfl) (by decide) ?_
    exact vx_ret (W.widen (k := (rm_L_world).cells) (n := (rm_L_world).slots) (Nat.le_of_ble_eq_true rfl) (Nat.le_of_ble_eq_true rfl) (mr_iret X hr hlk hH (Or.inr ⟨_, hp, ⟨rfl, rfl⟩⟩) (dk DL_world_0 10 rfl)))
  refine lv_i2l X.x X.b (dk DL_world_0 5 rfl) rfl ?_
  refine mr_last X hH (hk _ _ hp) (show vp_in (nI 0) 1 from vp_in_nI (by decide) (by decide)) (dk DL_world_0 6 rfl) (fun H locs hH => ?_)
  refine lv_goto (tgt := 15) X.x X.b (dk DL_world_0 7 rfl) (by decide) ?_
  refine lv_iconst (v := 0) X.x X.b (dk DL_world_0 11 rfl) (by decide) ?_
  exact vx_ret (W.widen (k := (rm_L_world).cells) (n := (rm_L_world).slots) (Nat.le_of_ble_eq_true rfl) (Nat.le_of_ble_eq_true rfl) (mr_iret X hr hlk hH (Or.inl ⟨rfl, v, h1, hp, rfl⟩) (dk DL_world_0 12 rfl)))
theorem hd_L_line : mHd yL_line 3 := ⟨by decide +kernel, by decide +kernel, by decide +kernel⟩
theorem DL_line_0 : ∀ t ∈ ([(0, .aload_n 2, 1), (1, .iconst 0, 1), (2, .aload_n 0, 1), (3, .iload_n 1, 1), (4, .invokevirtual 15, 3), (7, .lastore, 1), (8, .goto 6, 3), (11, .astore_n 3, 1), (12, .iconst 1, 1), (13, .ireturn, 1), (14, .iconst 0, 1), (15, .ireturn, 1)] : List (Nat × Instr × Nat)), decode cL_line t.1 = .ok (t.2.1, t.2.2) := by decide +kernel
abbrev rm_L_line : Room := { frames := 8, cells := 1, slots := 6, locals := 132 }
set_option maxHeartbeats 2000000 in
theorem c_L_line {l : Launch} {G : mG} {m : mM} {a : Nat} {fs : List Value} (ha : m a = some (.inr (LX11.1, fs))) {p0 : Int32} {post : Int64 → mM → Prop} {px : String → mM → Prop} (hM : xQ l G yX11_line cX11_line 2 (some FieldType.long) rm_X11_line [.ref a, .int p0] m (mQl G post) px) {ao : Nat} {fo : Nat → Int64} (hk : ∀ v m1, post v m1 → m1 ao = some (aJ G 1 fo)) (hx : ∀ E m1, px E m1 → E = exN 0) : hQ l G yL_line cL_line 4 (some .int) [(0, 8, 11, 19)] rm_L_line [.ref a, .int p0, .ref ao] m (mQi G (fun r m' => (r = 0 ∧ ∃ v m1, post v m1 ∧ m' = va_up m1 ao (some (aJ G 1 (vp_updL fo 0 (v))))) ∨ ∃ E, px E m' ∧ ((E = exN 0 ∧ r = 1)))) := by
  refine hp_of (by decide +kernel) (Nat.le_of_ble_eq_true rfl) ?_
  intro p e s m9 below meth c X hr hlk htab hH ls hl
  replace hl : lv_has ls 4 [(0, .ref a), (1, .int p0), (2, .ref ao)] := hl
  refine lv_aload_n X.x X.b (dk DL_line_0 0 rfl) rfl (lv_at hl 2 rfl) ?_
  refine lv_iconst (v := 0) X.x X.b (dk DL_line_0 1 rfl) (by decide) ?_
  refine lv_aload_n X.x X.b (dk DL_line_0 2 rfl) rfl (lv_at hl 0 rfl) ?_
  refine lv_iload_n X.x X.b (dk DL_line_0 3 rfl) rfl (lv_at hl 1 rfl) ?_
  refine mr_xl hH (mr_xrunV (As := [.int p0]) (rest := [.int 0, .ref ao]) X hH hM ha OX11.1 kM_L_15 kI_X11_line kS_X11_line kN_X11 kC_X11_line hd_X11_line ⟨Nat.le_of_ble_eq_true rfl, Nat.le_of_ble_eq_true rfl⟩ rfl hl.1 (Nat.le_of_ble_eq_true rfl) (dk DL_line_0 4 rfl) ⟨Nat.le_of_ble_eq_true rfl, Nat.le_of_ble_eq_true rfl⟩) (fun E h1 q9 H locs hp hH hth => ?_) (fun v h1 H locs hp hH => ?_)
  · have hE := hx E h1 hp
    subst hE
    refine mr_catch (own := RL) X htab hth [] (0, 8, 11, 19) [] rfl (fun z hz => by cases hz) rfl (by decide) kL_L_19 kX_0 ?_
    refine lv_astore_n (lv' := [(3, .ref q9), (0, .ref a), (1, .int p0), (2, .ref ao)]) X.x X.b (dk DL_line_0 7 rfl) rfl hl (by decide) rfl (fun ls hl => ?_)
    replace hl : lv_has ls 4 [] := lv_sub hl [] rfl
    refine lv_iconst (v := 1) X.x X.b (dk DL_line_0 8 rfl) (by decide) ?_
    exact vx_ret (W.widen (k := (rm_L_line).cells) (n := (rm_L_line).slots) (Nat.le_of_ble_eq_true rfl) (Nat.le_of_ble_eq_true rfl) (mr_iret X hr hlk hH (Or.inr ⟨_, hp, ⟨rfl, rfl⟩⟩) (dk DL_line_0 9 rfl)))
  refine mr_last X hH (hk _ _ hp) (show vp_in (nI 0) 1 from vp_in_nI (by decide) (by decide)) (dk DL_line_0 5 rfl) (fun H locs hH => ?_)
  refine lv_goto (tgt := 14) X.x X.b (dk DL_line_0 6 rfl) (by decide) ?_
  refine lv_iconst (v := 0) X.x X.b (dk DL_line_0 10 rfl) (by decide) ?_
  exact vx_ret (W.widen (k := (rm_L_line).cells) (n := (rm_L_line).slots) (Nat.le_of_ble_eq_true rfl) (Nat.le_of_ble_eq_true rfl) (mr_iret X hr hlk hH (Or.inl ⟨rfl, v, h1, hp, rfl⟩) (dk DL_line_0 11 rfl)))
theorem hd_L_through : mHd yL_through 3 := ⟨by decide +kernel, by decide +kernel, by decide +kernel⟩
theorem DL_through_0 : ∀ t ∈ ([(0, .aload_n 2, 1), (1, .iconst 0, 1), (2, .aload_n 0, 1), (3, .iload_n 1, 1), (4, .invokevirtual 21, 3), (7, .lastore, 1), (8, .goto 6, 3), (11, .astore_n 3, 1), (12, .iconst 1, 1), (13, .ireturn, 1), (14, .iconst 0, 1), (15, .ireturn, 1)] : List (Nat × Instr × Nat)), decode cL_through t.1 = .ok (t.2.1, t.2.2) := by decide +kernel
abbrev rm_L_through : Room := { frames := 8, cells := 1, slots := 6, locals := 132 }
set_option maxHeartbeats 2000000 in
theorem c_L_through {l : Launch} {G : mG} {m : mM} {a : Nat} {fs : List Value} (ha : m a = some (.inr (LX11.1, fs))) {p0 : Int32} {post : Int64 → mM → Prop} {px : String → mM → Prop} (hM : xQ l G yX11_through cX11_through 2 (some FieldType.long) rm_X11_through [.ref a, .int p0] m (mQl G post) px) {ao : Nat} {fo : Nat → Int64} (hk : ∀ v m1, post v m1 → m1 ao = some (aJ G 1 fo)) (hx : ∀ E m1, px E m1 → E = exN 0) : hQ l G yL_through cL_through 4 (some .int) [(0, 8, 11, 19)] rm_L_through [.ref a, .int p0, .ref ao] m (mQi G (fun r m' => (r = 0 ∧ ∃ v m1, post v m1 ∧ m' = va_up m1 ao (some (aJ G 1 (vp_updL fo 0 (v))))) ∨ ∃ E, px E m' ∧ ((E = exN 0 ∧ r = 1)))) := by
  refine hp_of (by decide +kernel) (Nat.le_of_ble_eq_true rfl) ?_
  intro p e s m9 below meth c X hr hlk htab hH ls hl
  replace hl : lv_has ls 4 [(0, .ref a), (1, .int p0), (2, .ref ao)] := hl
  refine lv_aload_n X.x X.b (dk DL_through_0 0 rfl) rfl (lv_at hl 2 rfl) ?_
  refine lv_iconst (v := 0) X.x X.b (dk DL_through_0 1 rfl) (by decide) ?_
  refine lv_aload_n X.x X.b (dk DL_through_0 2 rfl) rfl (lv_at hl 0 rfl) ?_
  refine lv_iload_n X.x X.b (dk DL_through_0 3 rfl) rfl (lv_at hl 1 rfl) ?_
  refine mr_xl hH (mr_xrunV (As := [.int p0]) (rest := [.int 0, .ref ao]) X hH hM ha OX11.1 kM_L_21 kI_X11_through kS_X11_through kN_X11 kC_X11_through hd_X11_through ⟨Nat.le_of_ble_eq_true rfl, Nat.le_of_ble_eq_true rfl⟩ rfl hl.1 (Nat.le_of_ble_eq_true rfl) (dk DL_through_0 4 rfl) ⟨Nat.le_of_ble_eq_true rfl, Nat.le_of_ble_eq_true rfl⟩) (fun E h1 q9 H locs hp hH hth => ?_) (fun v h1 H locs hp hH => ?_)
  · have hE := hx E h1 hp
    subst hE
    refine mr_catch (own := RL) X htab hth [] (0, 8, 11, 19) [] rfl (fun z hz => by cases hz) rfl (by decide) kL_L_19 kX_0 ?_
    refine lv_astore_n (lv' := [(3, .ref q9), (0, .ref a), (1, .int p0), (2, .ref ao)]) X.x X.b (dk DL_through_0 7 rfl) rfl hl (by decide) rfl (fun ls hl => ?_)
    replace hl : lv_has ls 4 [] := lv_sub hl [] rfl
    refine lv_iconst (v := 1) X.x X.b (dk DL_through_0 8 rfl) (by decide) ?_
    exact vx_ret (W.widen (k := (rm_L_through).cells) (n := (rm_L_through).slots) (Nat.le_of_ble_eq_true rfl) (Nat.le_of_ble_eq_true rfl) (mr_iret X hr hlk hH (Or.inr ⟨_, hp, ⟨rfl, rfl⟩⟩) (dk DL_through_0 9 rfl)))
  refine mr_last X hH (hk _ _ hp) (show vp_in (nI 0) 1 from vp_in_nI (by decide) (by decide)) (dk DL_through_0 5 rfl) (fun H locs hH => ?_)
  refine lv_goto (tgt := 14) X.x X.b (dk DL_through_0 6 rfl) (by decide) ?_
  refine lv_iconst (v := 0) X.x X.b (dk DL_through_0 10 rfl) (by decide) ?_
  exact vx_ret (W.widen (k := (rm_L_through).cells) (n := (rm_L_through).slots) (Nat.le_of_ble_eq_true rfl) (Nat.le_of_ble_eq_true rfl) (mr_iret X hr hlk hH (Or.inl ⟨rfl, v, h1, hp, rfl⟩) (dk DL_through_0 11 rfl)))
theorem hd_L_joined : mHd yL_joined 4 := ⟨by decide +kernel, by decide +kernel, by decide +kernel⟩
theorem DL_joined_0 : ∀ t ∈ ([(0, .aload_n 3, 1), (1, .iconst 0, 1), (2, .aload_n 0, 1), (3, .iload_n 1, 1), (4, .iload_n 2, 1), (5, .invokevirtual 24, 3), (8, .i2l, 1), (9, .lastore, 1), (10, .goto 7, 3), (13, .astore 4, 2), (15, .iconst 1, 1), (16, .ireturn, 1), (17, .iconst 0, 1), (18, .ireturn, 1)] : List (Nat × Instr × Nat)), decode cL_joined t.1 = .ok (t.2.1, t.2.2) := by decide +kernel
abbrev rm_L_joined : Room := { frames := 8, cells := 2, slots := 12, locals := 133 }
set_option maxHeartbeats 2000000 in
theorem c_L_joined {l : Launch} {G : mG} {m : mM} {a : Nat} {fs : List Value} (ha : m a = some (.inr (LX11.1, fs))) {p0 : Int32} {p1 : Int32} {post : Int32 → mM → Prop} {px : String → mM → Prop} (hM : xQ l G yX11_joined cX11_joined 3 (some FieldType.int) rm_X11_joined [.ref a, .int p0, .int p1] m (mQi G post) px) {ao : Nat} {fo : Nat → Int64} (hk : ∀ v m1, post v m1 → m1 ao = some (aJ G 1 fo)) (hx : ∀ E m1, px E m1 → E = exN 0) : hQ l G yL_joined cL_joined 5 (some .int) [(0, 10, 13, 19)] rm_L_joined [.ref a, .int p0, .int p1, .ref ao] m (mQi G (fun r m' => (r = 0 ∧ ∃ v m1, post v m1 ∧ m' = va_up m1 ao (some (aJ G 1 (vp_updL fo 0 (v.toInt64))))) ∨ ∃ E, px E m' ∧ ((E = exN 0 ∧ r = 1)))) := by
  refine hp_of (by decide +kernel) (Nat.le_of_ble_eq_true rfl) ?_
  intro p e s m9 below meth c X hr hlk htab hH ls hl
  replace hl : lv_has ls 5 [(0, .ref a), (1, .int p0), (2, .int p1), (3, .ref ao)] := hl
  refine lv_aload_n X.x X.b (dk DL_joined_0 0 rfl) rfl (lv_at hl 3 rfl) ?_
  refine lv_iconst (v := 0) X.x X.b (dk DL_joined_0 1 rfl) (by decide) ?_
  refine lv_aload_n X.x X.b (dk DL_joined_0 2 rfl) rfl (lv_at hl 0 rfl) ?_
  refine lv_iload_n X.x X.b (dk DL_joined_0 3 rfl) rfl (lv_at hl 1 rfl) ?_
  refine lv_iload_n X.x X.b (dk DL_joined_0 4 rfl) rfl (lv_at hl 2 rfl) ?_
  refine mr_xi hH (mr_xrunV (As := [.int p0, .int p1]) (rest := [.int 0, .ref ao]) X hH hM ha OX11.1 kM_L_24 kI_X11_joined kS_X11_joined kN_X11 kC_X11_joined hd_X11_joined ⟨Nat.le_of_ble_eq_true rfl, Nat.le_of_ble_eq_true rfl⟩ rfl hl.1 (Nat.le_of_ble_eq_true rfl) (dk DL_joined_0 5 rfl) ⟨Nat.le_of_ble_eq_true rfl, Nat.le_of_ble_eq_true rfl⟩) (fun E h1 q9 H locs hp hH hth => ?_) (fun v h1 H locs hp hH => ?_)
  · have hE := hx E h1 hp
    subst hE
    refine mr_catch (own := RL) X htab hth [] (0, 10, 13, 19) [] rfl (fun z hz => by cases hz) rfl (by decide) kL_L_19 kX_0 ?_
    refine lv_astore (lv' := [(4, .ref q9), (0, .ref a), (1, .int p0), (2, .int p1), (3, .ref ao)]) X.x X.b (dk DL_joined_0 9 rfl) hl (by decide) rfl (fun ls hl => ?_)
    replace hl : lv_has ls 5 [] := lv_sub hl [] rfl
    refine lv_iconst (v := 1) X.x X.b (dk DL_joined_0 10 rfl) (by decide) ?_
    exact vx_ret (W.widen (k := (rm_L_joined).cells) (n := (rm_L_joined).slots) (Nat.le_of_ble_eq_true rfl) (Nat.le_of_ble_eq_true rfl) (mr_iret X hr hlk hH (Or.inr ⟨_, hp, ⟨rfl, rfl⟩⟩) (dk DL_joined_0 11 rfl)))
  refine lv_i2l X.x X.b (dk DL_joined_0 6 rfl) rfl ?_
  refine mr_last X hH (hk _ _ hp) (show vp_in (nI 0) 1 from vp_in_nI (by decide) (by decide)) (dk DL_joined_0 7 rfl) (fun H locs hH => ?_)
  refine lv_goto (tgt := 17) X.x X.b (dk DL_joined_0 8 rfl) (by decide) ?_
  refine lv_iconst (v := 0) X.x X.b (dk DL_joined_0 12 rfl) (by decide) ?_
  exact vx_ret (W.widen (k := (rm_L_joined).cells) (n := (rm_L_joined).slots) (Nat.le_of_ble_eq_true rfl) (Nat.le_of_ble_eq_true rfl) (mr_iret X hr hlk hH (Or.inl ⟨rfl, v, h1, hp, rfl⟩) (dk DL_joined_0 13 rfl)))
theorem hd_L_near : mHd yL_near 3 := ⟨by decide +kernel, by decide +kernel, by decide +kernel⟩
theorem DL_near_0 : ∀ t ∈ ([(0, .aload_n 2, 1), (1, .iconst 0, 1), (2, .aload_n 0, 1), (3, .iload_n 1, 1), (4, .invokevirtual 28, 3), (7, .lastore, 1), (8, .goto 6, 3), (11, .astore_n 3, 1), (12, .iconst 1, 1), (13, .ireturn, 1), (14, .iconst 0, 1), (15, .ireturn, 1)] : List (Nat × Instr × Nat)), decode cL_near t.1 = .ok (t.2.1, t.2.2) := by decide +kernel
abbrev rm_L_near : Room := { frames := 8, cells := 1, slots := 6, locals := 132 }
set_option maxHeartbeats 2000000 in
theorem c_L_near {l : Launch} {G : mG} {m : mM} {a : Nat} {fs : List Value} (ha : m a = some (.inr (LX11.1, fs))) {p0 : Int32} {post : Int64 → mM → Prop} {px : String → mM → Prop} (hM : xQ l G yX11_near cX11_near 2 (some FieldType.long) rm_X11_near [.ref a, .int p0] m (mQl G post) px) {ao : Nat} {fo : Nat → Int64} (hk : ∀ v m1, post v m1 → m1 ao = some (aJ G 1 fo)) (hx : ∀ E m1, px E m1 → E = exN 0) : hQ l G yL_near cL_near 4 (some .int) [(0, 8, 11, 19)] rm_L_near [.ref a, .int p0, .ref ao] m (mQi G (fun r m' => (r = 0 ∧ ∃ v m1, post v m1 ∧ m' = va_up m1 ao (some (aJ G 1 (vp_updL fo 0 (v))))) ∨ ∃ E, px E m' ∧ ((E = exN 0 ∧ r = 1)))) := by
  refine hp_of (by decide +kernel) (Nat.le_of_ble_eq_true rfl) ?_
  intro p e s m9 below meth c X hr hlk htab hH ls hl
  replace hl : lv_has ls 4 [(0, .ref a), (1, .int p0), (2, .ref ao)] := hl
  refine lv_aload_n X.x X.b (dk DL_near_0 0 rfl) rfl (lv_at hl 2 rfl) ?_
  refine lv_iconst (v := 0) X.x X.b (dk DL_near_0 1 rfl) (by decide) ?_
  refine lv_aload_n X.x X.b (dk DL_near_0 2 rfl) rfl (lv_at hl 0 rfl) ?_
  refine lv_iload_n X.x X.b (dk DL_near_0 3 rfl) rfl (lv_at hl 1 rfl) ?_
  refine mr_xl hH (mr_xrunV (As := [.int p0]) (rest := [.int 0, .ref ao]) X hH hM ha OX11.1 kM_L_28 kI_X11_near kS_X11_near kN_X11 kC_X11_near hd_X11_near ⟨Nat.le_of_ble_eq_true rfl, Nat.le_of_ble_eq_true rfl⟩ rfl hl.1 (Nat.le_of_ble_eq_true rfl) (dk DL_near_0 4 rfl) ⟨Nat.le_of_ble_eq_true rfl, Nat.le_of_ble_eq_true rfl⟩) (fun E h1 q9 H locs hp hH hth => ?_) (fun v h1 H locs hp hH => ?_)
  · have hE := hx E h1 hp
    subst hE
    refine mr_catch (own := RL) X htab hth [] (0, 8, 11, 19) [] rfl (fun z hz => by cases hz) rfl (by decide) kL_L_19 kX_0 ?_
    refine lv_astore_n (lv' := [(3, .ref q9), (0, .ref a), (1, .int p0), (2, .ref ao)]) X.x X.b (dk DL_near_0 7 rfl) rfl hl (by decide) rfl (fun ls hl => ?_)
    replace hl : lv_has ls 4 [] := lv_sub hl [] rfl
    refine lv_iconst (v := 1) X.x X.b (dk DL_near_0 8 rfl) (by decide) ?_
    exact vx_ret (W.widen (k := (rm_L_near).cells) (n := (rm_L_near).slots) (Nat.le_of_ble_eq_true rfl) (Nat.le_of_ble_eq_true rfl) (mr_iret X hr hlk hH (Or.inr ⟨_, hp, ⟨rfl, rfl⟩⟩) (dk DL_near_0 9 rfl)))
  refine mr_last X hH (hk _ _ hp) (show vp_in (nI 0) 1 from vp_in_nI (by decide) (by decide)) (dk DL_near_0 5 rfl) (fun H locs hH => ?_)
  refine lv_goto (tgt := 14) X.x X.b (dk DL_near_0 6 rfl) (by decide) ?_
  refine lv_iconst (v := 0) X.x X.b (dk DL_near_0 10 rfl) (by decide) ?_
  exact vx_ret (W.widen (k := (rm_L_near).cells) (n := (rm_L_near).slots) (Nat.le_of_ble_eq_true rfl) (Nat.le_of_ble_eq_true rfl) (mr_iret X hr hlk hH (Or.inl ⟨rfl, v, h1, hp, rfl⟩) (dk DL_near_0 11 rfl)))
theorem hd_L_across : mHd yL_across 3 := ⟨by decide +kernel, by decide +kernel, by decide +kernel⟩
theorem DL_across_0 : ∀ t ∈ ([(0, .aload_n 3, 1), (1, .iconst 0, 1), (2, .aload_n 0, 1), (3, .lload_n 1, 1), (4, .invokevirtual 31, 3), (7, .lastore, 1), (8, .goto 7, 3), (11, .astore 4, 2), (13, .iconst 1, 1), (14, .ireturn, 1), (15, .iconst 0, 1), (16, .ireturn, 1)] : List (Nat × Instr × Nat)), decode cL_across t.1 = .ok (t.2.1, t.2.2) := by decide +kernel
abbrev rm_L_across : Room := { frames := 8, cells := 1, slots := 6, locals := 134 }
set_option maxHeartbeats 2000000 in
theorem c_L_across {l : Launch} {G : mG} {m : mM} {a : Nat} {fs : List Value} (ha : m a = some (.inr (LX11.1, fs))) {p0 : Int64} {post : Int64 → mM → Prop} {px : String → mM → Prop} (hM : xQ l G yX11_across cX11_across 3 (some FieldType.long) rm_X11_across [.ref a, .long p0] m (mQl G post) px) {ao : Nat} {fo : Nat → Int64} (hk : ∀ v m1, post v m1 → m1 ao = some (aJ G 1 fo)) (hx : ∀ E m1, px E m1 → E = exN 1) : hQ l G yL_across cL_across 5 (some .int) [(0, 8, 11, 13)] rm_L_across [.ref a, .long p0, .ref ao] m (mQi G (fun r m' => (r = 0 ∧ ∃ v m1, post v m1 ∧ m' = va_up m1 ao (some (aJ G 1 (vp_updL fo 0 (v))))) ∨ ∃ E, px E m' ∧ ((E = exN 1 ∧ r = 1)))) := by
  refine hp_of (by decide +kernel) (Nat.le_of_ble_eq_true rfl) ?_
  intro p e s m9 below meth c X hr hlk htab hH ls hl
  replace hl : lv_has ls 5 [(0, .ref a), (1, .long p0), (3, .ref ao)] := hl
  refine lv_aload_n X.x X.b (dk DL_across_0 0 rfl) rfl (lv_at hl 2 rfl) ?_
  refine lv_iconst (v := 0) X.x X.b (dk DL_across_0 1 rfl) (by decide) ?_
  refine lv_aload_n X.x X.b (dk DL_across_0 2 rfl) rfl (lv_at hl 0 rfl) ?_
  refine lv_lload_n X.x X.b (dk DL_across_0 3 rfl) rfl (lv_at hl 1 rfl) ?_
  refine mr_xl hH (mr_xrunV (As := [.long p0]) (rest := [.int 0, .ref ao]) X hH hM ha OX11.1 kM_L_31 kI_X11_across kS_X11_across kN_X11 kC_X11_across hd_X11_across ⟨Nat.le_of_ble_eq_true rfl, Nat.le_of_ble_eq_true rfl⟩ rfl hl.1 (Nat.le_of_ble_eq_true rfl) (dk DL_across_0 4 rfl) ⟨Nat.le_of_ble_eq_true rfl, Nat.le_of_ble_eq_true rfl⟩) (fun E h1 q9 H locs hp hH hth => ?_) (fun v h1 H locs hp hH => ?_)
  · have hE := hx E h1 hp
    subst hE
    refine mr_catch (own := RL) X htab hth [] (0, 8, 11, 13) [] rfl (fun z hz => by cases hz) rfl (by decide) kL_L_13 kX_1 ?_
    refine lv_astore (lv' := [(4, .ref q9), (0, .ref a), (1, .long p0), (3, .ref ao)]) X.x X.b (dk DL_across_0 7 rfl) hl (by decide) rfl (fun ls hl => ?_)
    replace hl : lv_has ls 5 [] := lv_sub hl [] rfl
    refine lv_iconst (v := 1) X.x X.b (dk DL_across_0 8 rfl) (by decide) ?_
    exact vx_ret (W.widen (k := (rm_L_across).cells) (n := (rm_L_across).slots) (Nat.le_of_ble_eq_true rfl) (Nat.le_of_ble_eq_true rfl) (mr_iret X hr hlk hH (Or.inr ⟨_, hp, ⟨rfl, rfl⟩⟩) (dk DL_across_0 9 rfl)))
  refine mr_last X hH (hk _ _ hp) (show vp_in (nI 0) 1 from vp_in_nI (by decide) (by decide)) (dk DL_across_0 5 rfl) (fun H locs hH => ?_)
  refine lv_goto (tgt := 15) X.x X.b (dk DL_across_0 6 rfl) (by decide) ?_
  refine lv_iconst (v := 0) X.x X.b (dk DL_across_0 10 rfl) (by decide) ?_
  exact vx_ret (W.widen (k := (rm_L_across).cells) (n := (rm_L_across).slots) (Nat.le_of_ble_eq_true rfl) (Nat.le_of_ble_eq_true rfl) (mr_iret X hr hlk hH (Or.inl ⟨rfl, v, h1, hp, rfl⟩) (dk DL_across_0 11 rfl)))
theorem hd_L_spanned : mHd yL_spanned 3 := ⟨by decide +kernel, by decide +kernel, by decide +kernel⟩
theorem DL_spanned_0 : ∀ t ∈ ([(0, .aload_n 3, 1), (1, .iconst 0, 1), (2, .aload_n 0, 1), (3, .lload_n 1, 1), (4, .invokevirtual 35, 3), (7, .lastore, 1), (8, .goto 7, 3), (11, .astore 4, 2), (13, .iconst 1, 1), (14, .ireturn, 1), (15, .iconst 0, 1), (16, .ireturn, 1)] : List (Nat × Instr × Nat)), decode cL_spanned t.1 = .ok (t.2.1, t.2.2) := by decide +kernel
abbrev rm_L_spanned : Room := { frames := 8, cells := 1, slots := 6, locals := 134 }
set_option maxHeartbeats 2000000 in
theorem c_L_spanned {l : Launch} {G : mG} {m : mM} {a : Nat} {fs : List Value} (ha : m a = some (.inr (LX11.1, fs))) {p0 : Int64} {post : Int64 → mM → Prop} {px : String → mM → Prop} (hM : xQ l G yX11_spanned cX11_spanned 3 (some FieldType.long) rm_X11_spanned [.ref a, .long p0] m (mQl G post) px) {ao : Nat} {fo : Nat → Int64} (hk : ∀ v m1, post v m1 → m1 ao = some (aJ G 1 fo)) (hx : ∀ E m1, px E m1 → E = exN 1) : hQ l G yL_spanned cL_spanned 5 (some .int) [(0, 8, 11, 13)] rm_L_spanned [.ref a, .long p0, .ref ao] m (mQi G (fun r m' => (r = 0 ∧ ∃ v m1, post v m1 ∧ m' = va_up m1 ao (some (aJ G 1 (vp_updL fo 0 (v))))) ∨ ∃ E, px E m' ∧ ((E = exN 1 ∧ r = 1)))) := by
  refine hp_of (by decide +kernel) (Nat.le_of_ble_eq_true rfl) ?_
  intro p e s m9 below meth c X hr hlk htab hH ls hl
  replace hl : lv_has ls 5 [(0, .ref a), (1, .long p0), (3, .ref ao)] := hl
  refine lv_aload_n X.x X.b (dk DL_spanned_0 0 rfl) rfl (lv_at hl 2 rfl) ?_
  refine lv_iconst (v := 0) X.x X.b (dk DL_spanned_0 1 rfl) (by decide) ?_
  refine lv_aload_n X.x X.b (dk DL_spanned_0 2 rfl) rfl (lv_at hl 0 rfl) ?_
  refine lv_lload_n X.x X.b (dk DL_spanned_0 3 rfl) rfl (lv_at hl 1 rfl) ?_
  refine mr_xl hH (mr_xrunV (As := [.long p0]) (rest := [.int 0, .ref ao]) X hH hM ha OX11.1 kM_L_35 kI_X11_spanned kS_X11_spanned kN_X11 kC_X11_spanned hd_X11_spanned ⟨Nat.le_of_ble_eq_true rfl, Nat.le_of_ble_eq_true rfl⟩ rfl hl.1 (Nat.le_of_ble_eq_true rfl) (dk DL_spanned_0 4 rfl) ⟨Nat.le_of_ble_eq_true rfl, Nat.le_of_ble_eq_true rfl⟩) (fun E h1 q9 H locs hp hH hth => ?_) (fun v h1 H locs hp hH => ?_)
  · have hE := hx E h1 hp
    subst hE
    refine mr_catch (own := RL) X htab hth [] (0, 8, 11, 13) [] rfl (fun z hz => by cases hz) rfl (by decide) kL_L_13 kX_1 ?_
    refine lv_astore (lv' := [(4, .ref q9), (0, .ref a), (1, .long p0), (3, .ref ao)]) X.x X.b (dk DL_spanned_0 7 rfl) hl (by decide) rfl (fun ls hl => ?_)
    replace hl : lv_has ls 5 [] := lv_sub hl [] rfl
    refine lv_iconst (v := 1) X.x X.b (dk DL_spanned_0 8 rfl) (by decide) ?_
    exact vx_ret (W.widen (k := (rm_L_spanned).cells) (n := (rm_L_spanned).slots) (Nat.le_of_ble_eq_true rfl) (Nat.le_of_ble_eq_true rfl) (mr_iret X hr hlk hH (Or.inr ⟨_, hp, ⟨rfl, rfl⟩⟩) (dk DL_spanned_0 9 rfl)))
  refine mr_last X hH (hk _ _ hp) (show vp_in (nI 0) 1 from vp_in_nI (by decide) (by decide)) (dk DL_spanned_0 5 rfl) (fun H locs hH => ?_)
  refine lv_goto (tgt := 15) X.x X.b (dk DL_spanned_0 6 rfl) (by decide) ?_
  refine lv_iconst (v := 0) X.x X.b (dk DL_spanned_0 10 rfl) (by decide) ?_
  exact vx_ret (W.widen (k := (rm_L_spanned).cells) (n := (rm_L_spanned).slots) (Nat.le_of_ble_eq_true rfl) (Nat.le_of_ble_eq_true rfl) (mr_iret X hr hlk hH (Or.inl ⟨rfl, v, h1, hp, rfl⟩) (dk DL_spanned_0 11 rfl)))
theorem hd_L_hyper : mHd yL_hyper 4 := ⟨by decide +kernel, by decide +kernel, by decide +kernel⟩
theorem DL_hyper_0 : ∀ t ∈ ([(0, .aload_n 3, 1), (1, .iconst 0, 1), (2, .aload_n 0, 1), (3, .iload_n 1, 1), (4, .iload_n 2, 1), (5, .invokevirtual 38, 3), (8, .lastore, 1), (9, .goto 7, 3), (12, .astore 4, 2), (14, .iconst 1, 1), (15, .ireturn, 1), (16, .iconst 0, 1), (17, .ireturn, 1)] : List (Nat × Instr × Nat)), decode cL_hyper t.1 = .ok (t.2.1, t.2.2) := by decide +kernel
abbrev rm_L_hyper : Room := { frames := 8, cells := 2, slots := 12, locals := 133 }
set_option maxHeartbeats 2000000 in
theorem c_L_hyper {l : Launch} {G : mG} {m : mM} {a : Nat} {fs : List Value} (ha : m a = some (.inr (LX11.1, fs))) {p0 : Int32} {p1 : Int32} {post : Int64 → mM → Prop} {px : String → mM → Prop} (hM : xQ l G yX11_hyper cX11_hyper 3 (some FieldType.long) rm_X11_hyper [.ref a, .int p0, .int p1] m (mQl G post) px) {ao : Nat} {fo : Nat → Int64} (hk : ∀ v m1, post v m1 → m1 ao = some (aJ G 1 fo)) (hx : ∀ E m1, px E m1 → E = exN 0) : hQ l G yL_hyper cL_hyper 5 (some .int) [(0, 9, 12, 19)] rm_L_hyper [.ref a, .int p0, .int p1, .ref ao] m (mQi G (fun r m' => (r = 0 ∧ ∃ v m1, post v m1 ∧ m' = va_up m1 ao (some (aJ G 1 (vp_updL fo 0 (v))))) ∨ ∃ E, px E m' ∧ ((E = exN 0 ∧ r = 1)))) := by
  refine hp_of (by decide +kernel) (Nat.le_of_ble_eq_true rfl) ?_
  intro p e s m9 below meth c X hr hlk htab hH ls hl
  replace hl : lv_has ls 5 [(0, .ref a), (1, .int p0), (2, .int p1), (3, .ref ao)] := hl
  refine lv_aload_n X.x X.b (dk DL_hyper_0 0 rfl) rfl (lv_at hl 3 rfl) ?_
  refine lv_iconst (v := 0) X.x X.b (dk DL_hyper_0 1 rfl) (by decide) ?_
  refine lv_aload_n X.x X.b (dk DL_hyper_0 2 rfl) rfl (lv_at hl 0 rfl) ?_
  refine lv_iload_n X.x X.b (dk DL_hyper_0 3 rfl) rfl (lv_at hl 1 rfl) ?_
  refine lv_iload_n X.x X.b (dk DL_hyper_0 4 rfl) rfl (lv_at hl 2 rfl) ?_
  refine mr_xl hH (mr_xrunV (As := [.int p0, .int p1]) (rest := [.int 0, .ref ao]) X hH hM ha OX11.1 kM_L_38 kI_X11_hyper kS_X11_hyper kN_X11 kC_X11_hyper hd_X11_hyper ⟨Nat.le_of_ble_eq_true rfl, Nat.le_of_ble_eq_true rfl⟩ rfl hl.1 (Nat.le_of_ble_eq_true rfl) (dk DL_hyper_0 5 rfl) ⟨Nat.le_of_ble_eq_true rfl, Nat.le_of_ble_eq_true rfl⟩) (fun E h1 q9 H locs hp hH hth => ?_) (fun v h1 H locs hp hH => ?_)
  · have hE := hx E h1 hp
    subst hE
    refine mr_catch (own := RL) X htab hth [] (0, 9, 12, 19) [] rfl (fun z hz => by cases hz) rfl (by decide) kL_L_19 kX_0 ?_
    refine lv_astore (lv' := [(4, .ref q9), (0, .ref a), (1, .int p0), (2, .int p1), (3, .ref ao)]) X.x X.b (dk DL_hyper_0 8 rfl) hl (by decide) rfl (fun ls hl => ?_)
    replace hl : lv_has ls 5 [] := lv_sub hl [] rfl
    refine lv_iconst (v := 1) X.x X.b (dk DL_hyper_0 9 rfl) (by decide) ?_
    exact vx_ret (W.widen (k := (rm_L_hyper).cells) (n := (rm_L_hyper).slots) (Nat.le_of_ble_eq_true rfl) (Nat.le_of_ble_eq_true rfl) (mr_iret X hr hlk hH (Or.inr ⟨_, hp, ⟨rfl, rfl⟩⟩) (dk DL_hyper_0 10 rfl)))
  refine mr_last X hH (hk _ _ hp) (show vp_in (nI 0) 1 from vp_in_nI (by decide) (by decide)) (dk DL_hyper_0 6 rfl) (fun H locs hH => ?_)
  refine lv_goto (tgt := 16) X.x X.b (dk DL_hyper_0 7 rfl) (by decide) ?_
  refine lv_iconst (v := 0) X.x X.b (dk DL_hyper_0 11 rfl) (by decide) ?_
  exact vx_ret (W.widen (k := (rm_L_hyper).cells) (n := (rm_L_hyper).slots) (Nat.le_of_ble_eq_true rfl) (Nat.le_of_ble_eq_true rfl) (mr_iret X hr hlk hH (Or.inl ⟨rfl, v, h1, hp, rfl⟩) (dk DL_hyper_0 12 rfl)))
theorem hd_L_regular : mHd yL_regular 4 := ⟨by decide +kernel, by decide +kernel, by decide +kernel⟩
theorem DL_regular_0 : ∀ t ∈ ([(0, .aload_n 3, 1), (1, .iconst 0, 1), (2, .aload_n 0, 1), (3, .iload_n 1, 1), (4, .iload_n 2, 1), (5, .invokevirtual 42, 3), (8, .ifCond .eq 7, 3), (11, .lconst 1, 1), (12, .goto 4, 3), (15, .lconst 0, 1), (16, .lastore, 1), (17, .goto 7, 3), (20, .astore 4, 2), (22, .iconst 1, 1), (23, .ireturn, 1), (24, .iconst 0, 1), (25, .ireturn, 1)] : List (Nat × Instr × Nat)), decode cL_regular t.1 = .ok (t.2.1, t.2.2) := by decide +kernel
abbrev rm_L_regular : Room := { frames := 8, cells := 2, slots := 12, locals := 135 }
set_option maxHeartbeats 2000000 in
theorem c_L_regular {l : Launch} {G : mG} {m : mM} {a : Nat} {fs : List Value} (ha : m a = some (.inr (LX11.1, fs))) {p0 : Int32} {p1 : Int32} {post : Int32 → mM → Prop} {px : String → mM → Prop} (hM : xQ l G yX11_regular cX11_regular 5 (some FieldType.boolean) rm_X11_regular [.ref a, .int p0, .int p1] m (mQi G post) px) {ao : Nat} {fo : Nat → Int64} (hk : ∀ v m1, post v m1 → m1 ao = some (aJ G 1 fo)) (hx : ∀ E m1, px E m1 → E = exN 0) : hQ l G yL_regular cL_regular 5 (some .int) [(0, 17, 20, 19)] rm_L_regular [.ref a, .int p0, .int p1, .ref ao] m (mQi G (fun r m' => (r = 0 ∧ ∃ v m1, post v m1 ∧ m' = va_up m1 ao (some (aJ G 1 (vp_updL fo 0 (if v = 0 then 0 else 1))))) ∨ ∃ E, px E m' ∧ ((E = exN 0 ∧ r = 1)))) := by
  refine hp_of (by decide +kernel) (Nat.le_of_ble_eq_true rfl) ?_
  intro p e s m9 below meth c X hr hlk htab hH ls hl
  replace hl : lv_has ls 5 [(0, .ref a), (1, .int p0), (2, .int p1), (3, .ref ao)] := hl
  refine lv_aload_n X.x X.b (dk DL_regular_0 0 rfl) rfl (lv_at hl 3 rfl) ?_
  refine lv_iconst (v := 0) X.x X.b (dk DL_regular_0 1 rfl) (by decide) ?_
  refine lv_aload_n X.x X.b (dk DL_regular_0 2 rfl) rfl (lv_at hl 0 rfl) ?_
  refine lv_iload_n X.x X.b (dk DL_regular_0 3 rfl) rfl (lv_at hl 1 rfl) ?_
  refine lv_iload_n X.x X.b (dk DL_regular_0 4 rfl) rfl (lv_at hl 2 rfl) ?_
  refine mr_xi hH (mr_xrunV (As := [.int p0, .int p1]) (rest := [.int 0, .ref ao]) X hH hM ha OX11.1 kM_L_42 kI_X11_regular kS_X11_regular kN_X11 kC_X11_regular hd_X11_regular ⟨Nat.le_of_ble_eq_true rfl, Nat.le_of_ble_eq_true rfl⟩ rfl hl.1 (Nat.le_of_ble_eq_true rfl) (dk DL_regular_0 5 rfl) ⟨Nat.le_of_ble_eq_true rfl, Nat.le_of_ble_eq_true rfl⟩) (fun E h1 q9 H locs hp hH hth => ?_) (fun v h1 H locs hp hH => ?_)
  · have hE := hx E h1 hp
    subst hE
    refine mr_catch (own := RL) X htab hth [] (0, 17, 20, 19) [] rfl (fun z hz => by cases hz) rfl (by decide) kL_L_19 kX_0 ?_
    refine lv_astore (lv' := [(4, .ref q9), (0, .ref a), (1, .int p0), (2, .int p1), (3, .ref ao)]) X.x X.b (dk DL_regular_0 12 rfl) hl (by decide) rfl (fun ls hl => ?_)
    replace hl : lv_has ls 5 [] := lv_sub hl [] rfl
    refine lv_iconst (v := 1) X.x X.b (dk DL_regular_0 13 rfl) (by decide) ?_
    exact vx_ret (W.widen (k := (rm_L_regular).cells) (n := (rm_L_regular).slots) (Nat.le_of_ble_eq_true rfl) (Nat.le_of_ble_eq_true rfl) (mr_iret X hr hlk hH (Or.inr ⟨_, hp, ⟨rfl, rfl⟩⟩) (dk DL_regular_0 14 rfl)))
  refine lv_if_eq (tgt := 15) X.x X.b (dk DL_regular_0 6 rfl) (by decide) (fun c => ?_) (fun c => ?_)
  · refine lv_lconst (v := 0) X.x X.b (dk DL_regular_0 9 rfl) (by decide) ?_
    refine mr_last X hH (hk _ _ hp) (show vp_in (nI 0) 1 from vp_in_nI (by decide) (by decide)) (dk DL_regular_0 10 rfl) (fun H locs hH => ?_)
    refine lv_goto (tgt := 24) X.x X.b (dk DL_regular_0 11 rfl) (by decide) ?_
    refine lv_iconst (v := 0) X.x X.b (dk DL_regular_0 15 rfl) (by decide) ?_
    exact vx_ret (W.widen (k := (rm_L_regular).cells) (n := (rm_L_regular).slots) (Nat.le_of_ble_eq_true rfl) (Nat.le_of_ble_eq_true rfl) (mr_iret X hr hlk hH (Or.inl ⟨rfl, v, h1, hp, by rw [if_pos c]; rfl⟩) (dk DL_regular_0 16 rfl)))
  · refine lv_lconst (v := 1) X.x X.b (dk DL_regular_0 7 rfl) (by decide) ?_
    refine lv_goto (tgt := 16) X.x X.b (dk DL_regular_0 8 rfl) (by decide) ?_
    refine mr_last X hH (hk _ _ hp) (show vp_in (nI 0) 1 from vp_in_nI (by decide) (by decide)) (dk DL_regular_0 10 rfl) (fun H locs hH => ?_)
    refine lv_goto (tgt := 24) X.x X.b (dk DL_regular_0 11 rfl) (by decide) ?_
    refine lv_iconst (v := 0) X.x X.b (dk DL_regular_0 15 rfl) (by decide) ?_
    exact vx_ret (W.widen (k := (rm_L_regular).cells) (n := (rm_L_regular).slots) (Nat.le_of_ble_eq_true rfl) (Nat.le_of_ble_eq_true rfl) (mr_iret X hr hlk hH (Or.inl ⟨rfl, v, h1, hp, by rw [if_neg c]; rfl⟩) (dk DL_regular_0 16 rfl)))
theorem hd_L_own : mHd yL_own 4 := ⟨by decide +kernel, by decide +kernel, by decide +kernel⟩
theorem DL_own_0 : ∀ t ∈ ([(0, .aload_n 3, 1), (1, .iconst 0, 1), (2, .aload_n 0, 1), (3, .iload_n 1, 1), (4, .iload_n 2, 1), (5, .invokevirtual 46, 3), (8, .i2l, 1), (9, .lastore, 1), (10, .goto 7, 3), (13, .astore 4, 2), (15, .iconst 1, 1), (16, .ireturn, 1), (17, .iconst 0, 1), (18, .ireturn, 1)] : List (Nat × Instr × Nat)), decode cL_own t.1 = .ok (t.2.1, t.2.2) := by decide +kernel
abbrev rm_L_own : Room := { frames := 7, cells := 1, slots := 6, locals := 151 }
set_option maxHeartbeats 2000000 in
theorem c_L_own {l : Launch} {G : mG} {m : mM} {a : Nat} {fs : List Value} (ha : m a = some (.inr (LX11.1, fs))) {p0 : Int32} {p1 : Int32} {post : Int32 → mM → Prop} {px : String → mM → Prop} (hM : xQ l G yX11_own cX11_own 3 (some FieldType.int) rm_X11_own [.ref a, .int p0, .int p1] m (mQi G post) px) {ao : Nat} {fo : Nat → Int64} (hk : ∀ v m1, post v m1 → m1 ao = some (aJ G 1 fo)) (hx : ∀ E m1, px E m1 → E = exN 1) : hQ l G yL_own cL_own 5 (some .int) [(0, 10, 13, 13)] rm_L_own [.ref a, .int p0, .int p1, .ref ao] m (mQi G (fun r m' => (r = 0 ∧ ∃ v m1, post v m1 ∧ m' = va_up m1 ao (some (aJ G 1 (vp_updL fo 0 (v.toInt64))))) ∨ ∃ E, px E m' ∧ ((E = exN 1 ∧ r = 1)))) := by
  refine hp_of (by decide +kernel) (Nat.le_of_ble_eq_true rfl) ?_
  intro p e s m9 below meth c X hr hlk htab hH ls hl
  replace hl : lv_has ls 5 [(0, .ref a), (1, .int p0), (2, .int p1), (3, .ref ao)] := hl
  refine lv_aload_n X.x X.b (dk DL_own_0 0 rfl) rfl (lv_at hl 3 rfl) ?_
  refine lv_iconst (v := 0) X.x X.b (dk DL_own_0 1 rfl) (by decide) ?_
  refine lv_aload_n X.x X.b (dk DL_own_0 2 rfl) rfl (lv_at hl 0 rfl) ?_
  refine lv_iload_n X.x X.b (dk DL_own_0 3 rfl) rfl (lv_at hl 1 rfl) ?_
  refine lv_iload_n X.x X.b (dk DL_own_0 4 rfl) rfl (lv_at hl 2 rfl) ?_
  refine mr_xi hH (mr_xrunV (As := [.int p0, .int p1]) (rest := [.int 0, .ref ao]) X hH hM ha OX11.1 kM_L_46 kI_X11_own kS_X11_own kN_X11 kC_X11_own hd_X11_own ⟨Nat.le_of_ble_eq_true rfl, Nat.le_of_ble_eq_true rfl⟩ rfl hl.1 (Nat.le_of_ble_eq_true rfl) (dk DL_own_0 5 rfl) ⟨Nat.le_of_ble_eq_true rfl, Nat.le_of_ble_eq_true rfl⟩) (fun E h1 q9 H locs hp hH hth => ?_) (fun v h1 H locs hp hH => ?_)
  · have hE := hx E h1 hp
    subst hE
    refine mr_catch (own := RL) X htab hth [] (0, 10, 13, 13) [] rfl (fun z hz => by cases hz) rfl (by decide) kL_L_13 kX_1 ?_
    refine lv_astore (lv' := [(4, .ref q9), (0, .ref a), (1, .int p0), (2, .int p1), (3, .ref ao)]) X.x X.b (dk DL_own_0 9 rfl) hl (by decide) rfl (fun ls hl => ?_)
    replace hl : lv_has ls 5 [] := lv_sub hl [] rfl
    refine lv_iconst (v := 1) X.x X.b (dk DL_own_0 10 rfl) (by decide) ?_
    exact vx_ret (W.widen (k := (rm_L_own).cells) (n := (rm_L_own).slots) (Nat.le_of_ble_eq_true rfl) (Nat.le_of_ble_eq_true rfl) (mr_iret X hr hlk hH (Or.inr ⟨_, hp, ⟨rfl, rfl⟩⟩) (dk DL_own_0 11 rfl)))
  refine lv_i2l X.x X.b (dk DL_own_0 6 rfl) rfl ?_
  refine mr_last X hH (hk _ _ hp) (show vp_in (nI 0) 1 from vp_in_nI (by decide) (by decide)) (dk DL_own_0 7 rfl) (fun H locs hH => ?_)
  refine lv_goto (tgt := 17) X.x X.b (dk DL_own_0 8 rfl) (by decide) ?_
  refine lv_iconst (v := 0) X.x X.b (dk DL_own_0 12 rfl) (by decide) ?_
  exact vx_ret (W.widen (k := (rm_L_own).cells) (n := (rm_L_own).slots) (Nat.le_of_ble_eq_true rfl) (Nat.le_of_ble_eq_true rfl) (mr_iret X hr hlk hH (Or.inl ⟨rfl, v, h1, hp, rfl⟩) (dk DL_own_0 13 rfl)))
theorem hd_L_meets : mHd yL_meets 4 := ⟨by decide +kernel, by decide +kernel, by decide +kernel⟩
theorem DL_meets_0 : ∀ t ∈ ([(0, .aload 4, 2), (2, .iconst 0, 1), (3, .aload_n 0, 1), (4, .lload_n 1, 1), (5, .iload_n 3, 1), (6, .invokevirtual 50, 3), (9, .i2l, 1), (10, .lastore, 1), (11, .goto 11, 3), (14, .astore 5, 2), (16, .iconst 1, 1), (17, .ireturn, 1), (18, .astore 5, 2), (20, .iconst 2, 1), (21, .ireturn, 1), (22, .iconst 0, 1), (23, .ireturn, 1)] : List (Nat × Instr × Nat)), decode cL_meets t.1 = .ok (t.2.1, t.2.2) := by decide +kernel
abbrev rm_L_meets : Room := { frames := 8, cells := 2, slots := 12, locals := 135 }
set_option maxHeartbeats 2000000 in
theorem c_L_meets {l : Launch} {G : mG} {m : mM} {a : Nat} {fs : List Value} (ha : m a = some (.inr (LX11.1, fs))) {p0 : Int64} {p1 : Int32} {post : Int32 → mM → Prop} {px : String → mM → Prop} (hM : xQ l G yX11_meets cX11_meets 4 (some FieldType.int) rm_X11_meets [.ref a, .long p0, .int p1] m (mQi G post) px) {ao : Nat} {fo : Nat → Int64} (hk : ∀ v m1, post v m1 → m1 ao = some (aJ G 1 fo)) (hx : ∀ E m1, px E m1 → E = exN 0 ∨ E = exN 1) : hQ l G yL_meets cL_meets 6 (some .int) [(0, 11, 14, 19), (0, 11, 18, 13)] rm_L_meets [.ref a, .long p0, .int p1, .ref ao] m (mQi G (fun r m' => (r = 0 ∧ ∃ v m1, post v m1 ∧ m' = va_up m1 ao (some (aJ G 1 (vp_updL fo 0 (v.toInt64))))) ∨ ∃ E, px E m' ∧ ((E = exN 0 ∧ r = 1) ∨ (E = exN 1 ∧ r = 2)))) := by
  refine hp_of (by decide +kernel) (Nat.le_of_ble_eq_true rfl) ?_
  intro p e s m9 below meth c X hr hlk htab hH ls hl
  replace hl : lv_has ls 6 [(0, .ref a), (1, .long p0), (3, .int p1), (4, .ref ao)] := hl
  refine lv_aload X.x X.b (dk DL_meets_0 0 rfl) (lv_at hl 3 rfl) ?_
  refine lv_iconst (v := 0) X.x X.b (dk DL_meets_0 1 rfl) (by decide) ?_
  refine lv_aload_n X.x X.b (dk DL_meets_0 2 rfl) rfl (lv_at hl 0 rfl) ?_
  refine lv_lload_n X.x X.b (dk DL_meets_0 3 rfl) rfl (lv_at hl 1 rfl) ?_
  refine lv_iload_n X.x X.b (dk DL_meets_0 4 rfl) rfl (lv_at hl 2 rfl) ?_
  refine mr_xi hH (mr_xrunV (As := [.long p0, .int p1]) (rest := [.int 0, .ref ao]) X hH hM ha OX11.1 kM_L_50 kI_X11_meets kS_X11_meets kN_X11 kC_X11_meets hd_X11_meets ⟨Nat.le_of_ble_eq_true rfl, Nat.le_of_ble_eq_true rfl⟩ rfl hl.1 (Nat.le_of_ble_eq_true rfl) (dk DL_meets_0 5 rfl) ⟨Nat.le_of_ble_eq_true rfl, Nat.le_of_ble_eq_true rfl⟩) (fun E h1 q9 H locs hp hH hth => ?_) (fun v h1 H locs hp hH => ?_)
  · rcases hx E h1 hp with hE | hE
    · subst hE
      refine mr_catch (own := RL) X htab hth [] (0, 11, 14, 19) [(0, 11, 18, 13)] rfl (fun z hz => by cases hz) rfl (by decide) kL_L_19 kX_0 ?_
      refine lv_astore (lv' := [(5, .ref q9), (0, .ref a), (1, .long p0), (3, .int p1), (4, .ref ao)]) X.x X.b (dk DL_meets_0 9 rfl) hl (by decide) rfl (fun ls hl => ?_)
      replace hl : lv_has ls 6 [] := lv_sub hl [] rfl
      refine lv_iconst (v := 1) X.x X.b (dk DL_meets_0 10 rfl) (by decide) ?_
      exact vx_ret (W.widen (k := (rm_L_meets).cells) (n := (rm_L_meets).slots) (Nat.le_of_ble_eq_true rfl) (Nat.le_of_ble_eq_true rfl) (mr_iret X hr hlk hH (Or.inr ⟨_, hp, Or.inl ⟨rfl, rfl⟩⟩) (dk DL_meets_0 11 rfl)))
    · subst hE
      refine mr_catch (own := RL) X htab hth [(0, 11, 14, 19)] (0, 11, 18, 13) [] rfl (fun z hz => by rcases List.mem_cons.mp hz with rfl | hz; exact ⟨by decide, _, kL_L_19, X.z.2.2.2.2.2.2.2.1⟩; cases hz) rfl (by decide) kL_L_13 kX_1 ?_
      refine lv_astore (lv' := [(5, .ref q9), (0, .ref a), (1, .long p0), (3, .int p1), (4, .ref ao)]) X.x X.b (dk DL_meets_0 12 rfl) hl (by decide) rfl (fun ls hl => ?_)
      replace hl : lv_has ls 6 [] := lv_sub hl [] rfl
      refine lv_iconst (v := 2) X.x X.b (dk DL_meets_0 13 rfl) (by decide) ?_
      exact vx_ret (W.widen (k := (rm_L_meets).cells) (n := (rm_L_meets).slots) (Nat.le_of_ble_eq_true rfl) (Nat.le_of_ble_eq_true rfl) (mr_iret X hr hlk hH (Or.inr ⟨_, hp, Or.inr (⟨rfl, rfl⟩)⟩) (dk DL_meets_0 14 rfl)))
  refine lv_i2l X.x X.b (dk DL_meets_0 6 rfl) rfl ?_
  refine mr_last X hH (hk _ _ hp) (show vp_in (nI 0) 1 from vp_in_nI (by decide) (by decide)) (dk DL_meets_0 7 rfl) (fun H locs hH => ?_)
  refine lv_goto (tgt := 22) X.x X.b (dk DL_meets_0 8 rfl) (by decide) ?_
  refine lv_iconst (v := 0) X.x X.b (dk DL_meets_0 15 rfl) (by decide) ?_
  exact vx_ret (W.widen (k := (rm_L_meets).cells) (n := (rm_L_meets).slots) (Nat.le_of_ble_eq_true rfl) (Nat.le_of_ble_eq_true rfl) (mr_iret X hr hlk hH (Or.inl ⟨rfl, v, h1, hp, rfl⟩) (dk DL_meets_0 16 rfl)))
theorem hd_L_even : mHd yL_even 3 := ⟨by decide +kernel, by decide +kernel, by decide +kernel⟩
theorem DL_even_0 : ∀ t ∈ ([(0, .aload_n 3, 1), (1, .iconst 0, 1), (2, .aload_n 0, 1), (3, .lload_n 1, 1), (4, .invokevirtual 54, 3), (7, .i2l, 1), (8, .lastore, 1), (9, .goto 7, 3), (12, .astore 4, 2), (14, .iconst 1, 1), (15, .ireturn, 1), (16, .iconst 0, 1), (17, .ireturn, 1)] : List (Nat × Instr × Nat)), decode cL_even t.1 = .ok (t.2.1, t.2.2) := by decide +kernel
abbrev rm_L_even : Room := { frames := 8, cells := 1, slots := 6, locals := 134 }
set_option maxHeartbeats 2000000 in
theorem c_L_even {l : Launch} {G : mG} {m : mM} {a : Nat} {fs : List Value} (ha : m a = some (.inr (LX11.1, fs))) {p0 : Int64} {post : Int32 → mM → Prop} {px : String → mM → Prop} (hM : xQ l G yX11_even cX11_even 3 (some FieldType.int) rm_X11_even [.ref a, .long p0] m (mQi G post) px) {ao : Nat} {fo : Nat → Int64} (hk : ∀ v m1, post v m1 → m1 ao = some (aJ G 1 fo)) (hx : ∀ E m1, px E m1 → E = exN 1) : hQ l G yL_even cL_even 5 (some .int) [(0, 9, 12, 13)] rm_L_even [.ref a, .long p0, .ref ao] m (mQi G (fun r m' => (r = 0 ∧ ∃ v m1, post v m1 ∧ m' = va_up m1 ao (some (aJ G 1 (vp_updL fo 0 (v.toInt64))))) ∨ ∃ E, px E m' ∧ ((E = exN 1 ∧ r = 1)))) := by
  refine hp_of (by decide +kernel) (Nat.le_of_ble_eq_true rfl) ?_
  intro p e s m9 below meth c X hr hlk htab hH ls hl
  replace hl : lv_has ls 5 [(0, .ref a), (1, .long p0), (3, .ref ao)] := hl
  refine lv_aload_n X.x X.b (dk DL_even_0 0 rfl) rfl (lv_at hl 2 rfl) ?_
  refine lv_iconst (v := 0) X.x X.b (dk DL_even_0 1 rfl) (by decide) ?_
  refine lv_aload_n X.x X.b (dk DL_even_0 2 rfl) rfl (lv_at hl 0 rfl) ?_
  refine lv_lload_n X.x X.b (dk DL_even_0 3 rfl) rfl (lv_at hl 1 rfl) ?_
  refine mr_xi hH (mr_xrunV (As := [.long p0]) (rest := [.int 0, .ref ao]) X hH hM ha OX11.1 kM_L_54 kI_X11_even kS_X11_even kN_X11 kC_X11_even hd_X11_even ⟨Nat.le_of_ble_eq_true rfl, Nat.le_of_ble_eq_true rfl⟩ rfl hl.1 (Nat.le_of_ble_eq_true rfl) (dk DL_even_0 4 rfl) ⟨Nat.le_of_ble_eq_true rfl, Nat.le_of_ble_eq_true rfl⟩) (fun E h1 q9 H locs hp hH hth => ?_) (fun v h1 H locs hp hH => ?_)
  · have hE := hx E h1 hp
    subst hE
    refine mr_catch (own := RL) X htab hth [] (0, 9, 12, 13) [] rfl (fun z hz => by cases hz) rfl (by decide) kL_L_13 kX_1 ?_
    refine lv_astore (lv' := [(4, .ref q9), (0, .ref a), (1, .long p0), (3, .ref ao)]) X.x X.b (dk DL_even_0 8 rfl) hl (by decide) rfl (fun ls hl => ?_)
    replace hl : lv_has ls 5 [] := lv_sub hl [] rfl
    refine lv_iconst (v := 1) X.x X.b (dk DL_even_0 9 rfl) (by decide) ?_
    exact vx_ret (W.widen (k := (rm_L_even).cells) (n := (rm_L_even).slots) (Nat.le_of_ble_eq_true rfl) (Nat.le_of_ble_eq_true rfl) (mr_iret X hr hlk hH (Or.inr ⟨_, hp, ⟨rfl, rfl⟩⟩) (dk DL_even_0 10 rfl)))
  refine lv_i2l X.x X.b (dk DL_even_0 5 rfl) rfl ?_
  refine mr_last X hH (hk _ _ hp) (show vp_in (nI 0) 1 from vp_in_nI (by decide) (by decide)) (dk DL_even_0 6 rfl) (fun H locs hH => ?_)
  refine lv_goto (tgt := 16) X.x X.b (dk DL_even_0 7 rfl) (by decide) ?_
  refine lv_iconst (v := 0) X.x X.b (dk DL_even_0 11 rfl) (by decide) ?_
  exact vx_ret (W.widen (k := (rm_L_even).cells) (n := (rm_L_even).slots) (Nat.le_of_ble_eq_true rfl) (Nat.le_of_ble_eq_true rfl) (mr_iret X hr hlk hH (Or.inl ⟨rfl, v, h1, hp, rfl⟩) (dk DL_even_0 12 rfl)))
theorem hd_L_tight : mHd yL_tight 3 := ⟨by decide +kernel, by decide +kernel, by decide +kernel⟩
theorem DL_tight_0 : ∀ t ∈ ([(0, .aload_n 3, 1), (1, .iconst 0, 1), (2, .aload_n 0, 1), (3, .lload_n 1, 1), (4, .invokevirtual 58, 3), (7, .i2l, 1), (8, .lastore, 1), (9, .goto 7, 3), (12, .astore 4, 2), (14, .iconst 1, 1), (15, .ireturn, 1), (16, .iconst 0, 1), (17, .ireturn, 1)] : List (Nat × Instr × Nat)), decode cL_tight t.1 = .ok (t.2.1, t.2.2) := by decide +kernel
abbrev rm_L_tight : Room := { frames := 8, cells := 1, slots := 6, locals := 134 }
set_option maxHeartbeats 2000000 in
theorem c_L_tight {l : Launch} {G : mG} {m : mM} {a : Nat} {fs : List Value} (ha : m a = some (.inr (LX11.1, fs))) {p0 : Int64} {post : Int32 → mM → Prop} {px : String → mM → Prop} (hM : xQ l G yX11_tight cX11_tight 3 (some FieldType.int) rm_X11_tight [.ref a, .long p0] m (mQi G post) px) {ao : Nat} {fo : Nat → Int64} (hk : ∀ v m1, post v m1 → m1 ao = some (aJ G 1 fo)) (hx : ∀ E m1, px E m1 → E = exN 1) : hQ l G yL_tight cL_tight 5 (some .int) [(0, 9, 12, 13)] rm_L_tight [.ref a, .long p0, .ref ao] m (mQi G (fun r m' => (r = 0 ∧ ∃ v m1, post v m1 ∧ m' = va_up m1 ao (some (aJ G 1 (vp_updL fo 0 (v.toInt64))))) ∨ ∃ E, px E m' ∧ ((E = exN 1 ∧ r = 1)))) := by
  refine hp_of (by decide +kernel) (Nat.le_of_ble_eq_true rfl) ?_
  intro p e s m9 below meth c X hr hlk htab hH ls hl
  replace hl : lv_has ls 5 [(0, .ref a), (1, .long p0), (3, .ref ao)] := hl
  refine lv_aload_n X.x X.b (dk DL_tight_0 0 rfl) rfl (lv_at hl 2 rfl) ?_
  refine lv_iconst (v := 0) X.x X.b (dk DL_tight_0 1 rfl) (by decide) ?_
  refine lv_aload_n X.x X.b (dk DL_tight_0 2 rfl) rfl (lv_at hl 0 rfl) ?_
  refine lv_lload_n X.x X.b (dk DL_tight_0 3 rfl) rfl (lv_at hl 1 rfl) ?_
  refine mr_xi hH (mr_xrunV (As := [.long p0]) (rest := [.int 0, .ref ao]) X hH hM ha OX11.1 kM_L_58 kI_X11_tight kS_X11_tight kN_X11 kC_X11_tight hd_X11_tight ⟨Nat.le_of_ble_eq_true rfl, Nat.le_of_ble_eq_true rfl⟩ rfl hl.1 (Nat.le_of_ble_eq_true rfl) (dk DL_tight_0 4 rfl) ⟨Nat.le_of_ble_eq_true rfl, Nat.le_of_ble_eq_true rfl⟩) (fun E h1 q9 H locs hp hH hth => ?_) (fun v h1 H locs hp hH => ?_)
  · have hE := hx E h1 hp
    subst hE
    refine mr_catch (own := RL) X htab hth [] (0, 9, 12, 13) [] rfl (fun z hz => by cases hz) rfl (by decide) kL_L_13 kX_1 ?_
    refine lv_astore (lv' := [(4, .ref q9), (0, .ref a), (1, .long p0), (3, .ref ao)]) X.x X.b (dk DL_tight_0 8 rfl) hl (by decide) rfl (fun ls hl => ?_)
    replace hl : lv_has ls 5 [] := lv_sub hl [] rfl
    refine lv_iconst (v := 1) X.x X.b (dk DL_tight_0 9 rfl) (by decide) ?_
    exact vx_ret (W.widen (k := (rm_L_tight).cells) (n := (rm_L_tight).slots) (Nat.le_of_ble_eq_true rfl) (Nat.le_of_ble_eq_true rfl) (mr_iret X hr hlk hH (Or.inr ⟨_, hp, ⟨rfl, rfl⟩⟩) (dk DL_tight_0 10 rfl)))
  refine lv_i2l X.x X.b (dk DL_tight_0 5 rfl) rfl ?_
  refine mr_last X hH (hk _ _ hp) (show vp_in (nI 0) 1 from vp_in_nI (by decide) (by decide)) (dk DL_tight_0 6 rfl) (fun H locs hH => ?_)
  refine lv_goto (tgt := 16) X.x X.b (dk DL_tight_0 7 rfl) (by decide) ?_
  refine lv_iconst (v := 0) X.x X.b (dk DL_tight_0 11 rfl) (by decide) ?_
  exact vx_ret (W.widen (k := (rm_L_tight).cells) (n := (rm_L_tight).slots) (Nat.le_of_ble_eq_true rfl) (Nat.le_of_ble_eq_true rfl) (mr_iret X hr hlk hH (Or.inl ⟨rfl, v, h1, hp, rfl⟩) (dk DL_tight_0 12 rfl)))
theorem hd_L_walks : mHd yL_walks 3 := ⟨by decide +kernel, by decide +kernel, by decide +kernel⟩
theorem DL_walks_0 : ∀ t ∈ ([(0, .aload_n 2, 1), (1, .iconst 0, 1), (2, .aload_n 0, 1), (3, .iload_n 1, 1), (4, .invokevirtual 61, 3), (7, .i2l, 1), (8, .lastore, 1), (9, .goto 6, 3), (12, .astore_n 3, 1), (13, .iconst 1, 1), (14, .ireturn, 1), (15, .iconst 0, 1), (16, .ireturn, 1)] : List (Nat × Instr × Nat)), decode cL_walks t.1 = .ok (t.2.1, t.2.2) := by decide +kernel
abbrev rm_L_walks : Room := { frames := 7, cells := 1, slots := 6, locals := 143 }
set_option maxHeartbeats 2000000 in
theorem c_L_walks {l : Launch} {G : mG} {m : mM} {a : Nat} {fs : List Value} (ha : m a = some (.inr (LX11.1, fs))) {p0 : Int32} {post : Int32 → mM → Prop} {px : String → mM → Prop} (hM : xQ l G yX11_walks cX11_walks 2 (some FieldType.int) rm_X11_walks [.ref a, .int p0] m (mQi G post) px) {ao : Nat} {fo : Nat → Int64} (hk : ∀ v m1, post v m1 → m1 ao = some (aJ G 1 fo)) (hx : ∀ E m1, px E m1 → E = exN 1) : hQ l G yL_walks cL_walks 4 (some .int) [(0, 9, 12, 13)] rm_L_walks [.ref a, .int p0, .ref ao] m (mQi G (fun r m' => (r = 0 ∧ ∃ v m1, post v m1 ∧ m' = va_up m1 ao (some (aJ G 1 (vp_updL fo 0 (v.toInt64))))) ∨ ∃ E, px E m' ∧ ((E = exN 1 ∧ r = 1)))) := by
  refine hp_of (by decide +kernel) (Nat.le_of_ble_eq_true rfl) ?_
  intro p e s m9 below meth c X hr hlk htab hH ls hl
  replace hl : lv_has ls 4 [(0, .ref a), (1, .int p0), (2, .ref ao)] := hl
  refine lv_aload_n X.x X.b (dk DL_walks_0 0 rfl) rfl (lv_at hl 2 rfl) ?_
  refine lv_iconst (v := 0) X.x X.b (dk DL_walks_0 1 rfl) (by decide) ?_
  refine lv_aload_n X.x X.b (dk DL_walks_0 2 rfl) rfl (lv_at hl 0 rfl) ?_
  refine lv_iload_n X.x X.b (dk DL_walks_0 3 rfl) rfl (lv_at hl 1 rfl) ?_
  refine mr_xi hH (mr_xrunV (As := [.int p0]) (rest := [.int 0, .ref ao]) X hH hM ha OX11.1 kM_L_61 kI_X11_walks kS_X11_walks kN_X11 kC_X11_walks hd_X11_walks ⟨Nat.le_of_ble_eq_true rfl, Nat.le_of_ble_eq_true rfl⟩ rfl hl.1 (Nat.le_of_ble_eq_true rfl) (dk DL_walks_0 4 rfl) ⟨Nat.le_of_ble_eq_true rfl, Nat.le_of_ble_eq_true rfl⟩) (fun E h1 q9 H locs hp hH hth => ?_) (fun v h1 H locs hp hH => ?_)
  · have hE := hx E h1 hp
    subst hE
    refine mr_catch (own := RL) X htab hth [] (0, 9, 12, 13) [] rfl (fun z hz => by cases hz) rfl (by decide) kL_L_13 kX_1 ?_
    refine lv_astore_n (lv' := [(3, .ref q9), (0, .ref a), (1, .int p0), (2, .ref ao)]) X.x X.b (dk DL_walks_0 8 rfl) rfl hl (by decide) rfl (fun ls hl => ?_)
    replace hl : lv_has ls 4 [] := lv_sub hl [] rfl
    refine lv_iconst (v := 1) X.x X.b (dk DL_walks_0 9 rfl) (by decide) ?_
    exact vx_ret (W.widen (k := (rm_L_walks).cells) (n := (rm_L_walks).slots) (Nat.le_of_ble_eq_true rfl) (Nat.le_of_ble_eq_true rfl) (mr_iret X hr hlk hH (Or.inr ⟨_, hp, ⟨rfl, rfl⟩⟩) (dk DL_walks_0 10 rfl)))
  refine lv_i2l X.x X.b (dk DL_walks_0 5 rfl) rfl ?_
  refine mr_last X hH (hk _ _ hp) (show vp_in (nI 0) 1 from vp_in_nI (by decide) (by decide)) (dk DL_walks_0 6 rfl) (fun H locs hH => ?_)
  refine lv_goto (tgt := 15) X.x X.b (dk DL_walks_0 7 rfl) (by decide) ?_
  refine lv_iconst (v := 0) X.x X.b (dk DL_walks_0 11 rfl) (by decide) ?_
  exact vx_ret (W.widen (k := (rm_L_walks).cells) (n := (rm_L_walks).slots) (Nat.le_of_ble_eq_true rfl) (Nat.le_of_ble_eq_true rfl) (mr_iret X hr hlk hH (Or.inl ⟨rfl, v, h1, hp, rfl⟩) (dk DL_walks_0 12 rfl)))
theorem hd_L_far : mHd yL_far 4 := ⟨by decide +kernel, by decide +kernel, by decide +kernel⟩
theorem DL_far_0 : ∀ t ∈ ([(0, .aload_n 3, 1), (1, .iconst 0, 1), (2, .aload_n 0, 1), (3, .iload_n 1, 1), (4, .iload_n 2, 1), (5, .invokevirtual 64, 3), (8, .i2l, 1), (9, .lastore, 1), (10, .goto 7, 3), (13, .astore 4, 2), (15, .iconst 1, 1), (16, .ireturn, 1), (17, .iconst 0, 1), (18, .ireturn, 1)] : List (Nat × Instr × Nat)), decode cL_far t.1 = .ok (t.2.1, t.2.2) := by decide +kernel
abbrev rm_L_far : Room := { frames := 8, cells := 2, slots := 12, locals := 133 }
set_option maxHeartbeats 2000000 in
theorem c_L_far {l : Launch} {G : mG} {m : mM} {a : Nat} {fs : List Value} (ha : m a = some (.inr (LX11.1, fs))) {p0 : Int32} {p1 : Int32} {post : Int32 → mM → Prop} {px : String → mM → Prop} (hM : xQ l G yX11_far cX11_far 3 (some FieldType.int) rm_X11_far [.ref a, .int p0, .int p1] m (mQi G post) px) {ao : Nat} {fo : Nat → Int64} (hk : ∀ v m1, post v m1 → m1 ao = some (aJ G 1 fo)) (hx : ∀ E m1, px E m1 → E = exN 0) : hQ l G yL_far cL_far 5 (some .int) [(0, 10, 13, 19)] rm_L_far [.ref a, .int p0, .int p1, .ref ao] m (mQi G (fun r m' => (r = 0 ∧ ∃ v m1, post v m1 ∧ m' = va_up m1 ao (some (aJ G 1 (vp_updL fo 0 (v.toInt64))))) ∨ ∃ E, px E m' ∧ ((E = exN 0 ∧ r = 1)))) := by
  refine hp_of (by decide +kernel) (Nat.le_of_ble_eq_true rfl) ?_
  intro p e s m9 below meth c X hr hlk htab hH ls hl
  replace hl : lv_has ls 5 [(0, .ref a), (1, .int p0), (2, .int p1), (3, .ref ao)] := hl
  refine lv_aload_n X.x X.b (dk DL_far_0 0 rfl) rfl (lv_at hl 3 rfl) ?_
  refine lv_iconst (v := 0) X.x X.b (dk DL_far_0 1 rfl) (by decide) ?_
  refine lv_aload_n X.x X.b (dk DL_far_0 2 rfl) rfl (lv_at hl 0 rfl) ?_
  refine lv_iload_n X.x X.b (dk DL_far_0 3 rfl) rfl (lv_at hl 1 rfl) ?_
  refine lv_iload_n X.x X.b (dk DL_far_0 4 rfl) rfl (lv_at hl 2 rfl) ?_
  refine mr_xi hH (mr_xrunV (As := [.int p0, .int p1]) (rest := [.int 0, .ref ao]) X hH hM ha OX11.1 kM_L_64 kI_X11_far kS_X11_far kN_X11 kC_X11_far hd_X11_far ⟨Nat.le_of_ble_eq_true rfl, Nat.le_of_ble_eq_true rfl⟩ rfl hl.1 (Nat.le_of_ble_eq_true rfl) (dk DL_far_0 5 rfl) ⟨Nat.le_of_ble_eq_true rfl, Nat.le_of_ble_eq_true rfl⟩) (fun E h1 q9 H locs hp hH hth => ?_) (fun v h1 H locs hp hH => ?_)
  · have hE := hx E h1 hp
    subst hE
    refine mr_catch (own := RL) X htab hth [] (0, 10, 13, 19) [] rfl (fun z hz => by cases hz) rfl (by decide) kL_L_19 kX_0 ?_
    refine lv_astore (lv' := [(4, .ref q9), (0, .ref a), (1, .int p0), (2, .int p1), (3, .ref ao)]) X.x X.b (dk DL_far_0 9 rfl) hl (by decide) rfl (fun ls hl => ?_)
    replace hl : lv_has ls 5 [] := lv_sub hl [] rfl
    refine lv_iconst (v := 1) X.x X.b (dk DL_far_0 10 rfl) (by decide) ?_
    exact vx_ret (W.widen (k := (rm_L_far).cells) (n := (rm_L_far).slots) (Nat.le_of_ble_eq_true rfl) (Nat.le_of_ble_eq_true rfl) (mr_iret X hr hlk hH (Or.inr ⟨_, hp, ⟨rfl, rfl⟩⟩) (dk DL_far_0 11 rfl)))
  refine lv_i2l X.x X.b (dk DL_far_0 6 rfl) rfl ?_
  refine mr_last X hH (hk _ _ hp) (show vp_in (nI 0) 1 from vp_in_nI (by decide) (by decide)) (dk DL_far_0 7 rfl) (fun H locs hH => ?_)
  refine lv_goto (tgt := 17) X.x X.b (dk DL_far_0 8 rfl) (by decide) ?_
  refine lv_iconst (v := 0) X.x X.b (dk DL_far_0 12 rfl) (by decide) ?_
  exact vx_ret (W.widen (k := (rm_L_far).cells) (n := (rm_L_far).slots) (Nat.le_of_ble_eq_true rfl) (Nat.le_of_ble_eq_true rfl) (mr_iret X hr hlk hH (Or.inl ⟨rfl, v, h1, hp, rfl⟩) (dk DL_far_0 13 rfl)))
theorem hd_L_rank : mHd yL_rank 3 := ⟨by decide +kernel, by decide +kernel, by decide +kernel⟩
theorem DL_rank_0 : ∀ t ∈ ([(0, .aload_n 2, 1), (1, .iconst 0, 1), (2, .aload_n 0, 1), (3, .iload_n 1, 1), (4, .invokevirtual 67, 3), (7, .i2l, 1), (8, .lastore, 1), (9, .goto 6, 3), (12, .astore_n 3, 1), (13, .iconst 1, 1), (14, .ireturn, 1), (15, .iconst 0, 1), (16, .ireturn, 1)] : List (Nat × Instr × Nat)), decode cL_rank t.1 = .ok (t.2.1, t.2.2) := by decide +kernel
abbrev rm_L_rank : Room := { frames := 7, cells := 1, slots := 6, locals := 136 }
set_option maxHeartbeats 2000000 in
theorem c_L_rank {l : Launch} {G : mG} {m : mM} {a : Nat} {fs : List Value} (ha : m a = some (.inr (LX11.1, fs))) {p0 : Int32} {post : Int32 → mM → Prop} {px : String → mM → Prop} (hM : xQ l G yX11_rank cX11_rank 2 (some FieldType.int) rm_X11_rank [.ref a, .int p0] m (mQi G post) px) {ao : Nat} {fo : Nat → Int64} (hk : ∀ v m1, post v m1 → m1 ao = some (aJ G 1 fo)) (hx : ∀ E m1, px E m1 → E = exN 1) : hQ l G yL_rank cL_rank 4 (some .int) [(0, 9, 12, 13)] rm_L_rank [.ref a, .int p0, .ref ao] m (mQi G (fun r m' => (r = 0 ∧ ∃ v m1, post v m1 ∧ m' = va_up m1 ao (some (aJ G 1 (vp_updL fo 0 (v.toInt64))))) ∨ ∃ E, px E m' ∧ ((E = exN 1 ∧ r = 1)))) := by
  refine hp_of (by decide +kernel) (Nat.le_of_ble_eq_true rfl) ?_
  intro p e s m9 below meth c X hr hlk htab hH ls hl
  replace hl : lv_has ls 4 [(0, .ref a), (1, .int p0), (2, .ref ao)] := hl
  refine lv_aload_n X.x X.b (dk DL_rank_0 0 rfl) rfl (lv_at hl 2 rfl) ?_
  refine lv_iconst (v := 0) X.x X.b (dk DL_rank_0 1 rfl) (by decide) ?_
  refine lv_aload_n X.x X.b (dk DL_rank_0 2 rfl) rfl (lv_at hl 0 rfl) ?_
  refine lv_iload_n X.x X.b (dk DL_rank_0 3 rfl) rfl (lv_at hl 1 rfl) ?_
  refine mr_xi hH (mr_xrunV (As := [.int p0]) (rest := [.int 0, .ref ao]) X hH hM ha OX11.1 kM_L_67 kI_X11_rank kS_X11_rank kN_X11 kC_X11_rank hd_X11_rank ⟨Nat.le_of_ble_eq_true rfl, Nat.le_of_ble_eq_true rfl⟩ rfl hl.1 (Nat.le_of_ble_eq_true rfl) (dk DL_rank_0 4 rfl) ⟨Nat.le_of_ble_eq_true rfl, Nat.le_of_ble_eq_true rfl⟩) (fun E h1 q9 H locs hp hH hth => ?_) (fun v h1 H locs hp hH => ?_)
  · have hE := hx E h1 hp
    subst hE
    refine mr_catch (own := RL) X htab hth [] (0, 9, 12, 13) [] rfl (fun z hz => by cases hz) rfl (by decide) kL_L_13 kX_1 ?_
    refine lv_astore_n (lv' := [(3, .ref q9), (0, .ref a), (1, .int p0), (2, .ref ao)]) X.x X.b (dk DL_rank_0 8 rfl) rfl hl (by decide) rfl (fun ls hl => ?_)
    replace hl : lv_has ls 4 [] := lv_sub hl [] rfl
    refine lv_iconst (v := 1) X.x X.b (dk DL_rank_0 9 rfl) (by decide) ?_
    exact vx_ret (W.widen (k := (rm_L_rank).cells) (n := (rm_L_rank).slots) (Nat.le_of_ble_eq_true rfl) (Nat.le_of_ble_eq_true rfl) (mr_iret X hr hlk hH (Or.inr ⟨_, hp, ⟨rfl, rfl⟩⟩) (dk DL_rank_0 10 rfl)))
  refine lv_i2l X.x X.b (dk DL_rank_0 5 rfl) rfl ?_
  refine mr_last X hH (hk _ _ hp) (show vp_in (nI 0) 1 from vp_in_nI (by decide) (by decide)) (dk DL_rank_0 6 rfl) (fun H locs hH => ?_)
  refine lv_goto (tgt := 15) X.x X.b (dk DL_rank_0 7 rfl) (by decide) ?_
  refine lv_iconst (v := 0) X.x X.b (dk DL_rank_0 11 rfl) (by decide) ?_
  exact vx_ret (W.widen (k := (rm_L_rank).cells) (n := (rm_L_rank).slots) (Nat.le_of_ble_eq_true rfl) (Nat.le_of_ble_eq_true rfl) (mr_iret X hr hlk hH (Or.inl ⟨rfl, v, h1, hp, rfl⟩) (dk DL_rank_0 12 rfl)))
theorem hd_L_code : mHd yL_code 3 := ⟨by decide +kernel, by decide +kernel, by decide +kernel⟩
theorem DL_code_0 : ∀ t ∈ ([(0, .aload_n 2, 1), (1, .iconst 0, 1), (2, .aload_n 0, 1), (3, .iload_n 1, 1), (4, .invokevirtual 70, 3), (7, .i2l, 1), (8, .lastore, 1), (9, .goto 6, 3), (12, .astore_n 3, 1), (13, .iconst 1, 1), (14, .ireturn, 1), (15, .iconst 0, 1), (16, .ireturn, 1)] : List (Nat × Instr × Nat)), decode cL_code t.1 = .ok (t.2.1, t.2.2) := by decide +kernel
abbrev rm_L_code : Room := { frames := 7, cells := 1, slots := 6, locals := 161 }
set_option maxHeartbeats 2000000 in
theorem c_L_code {l : Launch} {G : mG} {m : mM} {a : Nat} {fs : List Value} (ha : m a = some (.inr (LX11.1, fs))) {p0 : Int32} {post : Int32 → mM → Prop} {px : String → mM → Prop} (hM : xQ l G yX11_code cX11_code 2 (some FieldType.int) rm_X11_code [.ref a, .int p0] m (mQi G post) px) {ao : Nat} {fo : Nat → Int64} (hk : ∀ v m1, post v m1 → m1 ao = some (aJ G 1 fo)) (hx : ∀ E m1, px E m1 → E = exN 1) : hQ l G yL_code cL_code 4 (some .int) [(0, 9, 12, 13)] rm_L_code [.ref a, .int p0, .ref ao] m (mQi G (fun r m' => (r = 0 ∧ ∃ v m1, post v m1 ∧ m' = va_up m1 ao (some (aJ G 1 (vp_updL fo 0 (v.toInt64))))) ∨ ∃ E, px E m' ∧ ((E = exN 1 ∧ r = 1)))) := by
  refine hp_of (by decide +kernel) (Nat.le_of_ble_eq_true rfl) ?_
  intro p e s m9 below meth c X hr hlk htab hH ls hl
  replace hl : lv_has ls 4 [(0, .ref a), (1, .int p0), (2, .ref ao)] := hl
  refine lv_aload_n X.x X.b (dk DL_code_0 0 rfl) rfl (lv_at hl 2 rfl) ?_
  refine lv_iconst (v := 0) X.x X.b (dk DL_code_0 1 rfl) (by decide) ?_
  refine lv_aload_n X.x X.b (dk DL_code_0 2 rfl) rfl (lv_at hl 0 rfl) ?_
  refine lv_iload_n X.x X.b (dk DL_code_0 3 rfl) rfl (lv_at hl 1 rfl) ?_
  refine mr_xi hH (mr_xrunV (As := [.int p0]) (rest := [.int 0, .ref ao]) X hH hM ha OX11.1 kM_L_70 kI_X11_code kS_X11_code kN_X11 kC_X11_code hd_X11_code ⟨Nat.le_of_ble_eq_true rfl, Nat.le_of_ble_eq_true rfl⟩ rfl hl.1 (Nat.le_of_ble_eq_true rfl) (dk DL_code_0 4 rfl) ⟨Nat.le_of_ble_eq_true rfl, Nat.le_of_ble_eq_true rfl⟩) (fun E h1 q9 H locs hp hH hth => ?_) (fun v h1 H locs hp hH => ?_)
  · have hE := hx E h1 hp
    subst hE
    refine mr_catch (own := RL) X htab hth [] (0, 9, 12, 13) [] rfl (fun z hz => by cases hz) rfl (by decide) kL_L_13 kX_1 ?_
    refine lv_astore_n (lv' := [(3, .ref q9), (0, .ref a), (1, .int p0), (2, .ref ao)]) X.x X.b (dk DL_code_0 8 rfl) rfl hl (by decide) rfl (fun ls hl => ?_)
    replace hl : lv_has ls 4 [] := lv_sub hl [] rfl
    refine lv_iconst (v := 1) X.x X.b (dk DL_code_0 9 rfl) (by decide) ?_
    exact vx_ret (W.widen (k := (rm_L_code).cells) (n := (rm_L_code).slots) (Nat.le_of_ble_eq_true rfl) (Nat.le_of_ble_eq_true rfl) (mr_iret X hr hlk hH (Or.inr ⟨_, hp, ⟨rfl, rfl⟩⟩) (dk DL_code_0 10 rfl)))
  refine lv_i2l X.x X.b (dk DL_code_0 5 rfl) rfl ?_
  refine mr_last X hH (hk _ _ hp) (show vp_in (nI 0) 1 from vp_in_nI (by decide) (by decide)) (dk DL_code_0 6 rfl) (fun H locs hH => ?_)
  refine lv_goto (tgt := 15) X.x X.b (dk DL_code_0 7 rfl) (by decide) ?_
  refine lv_iconst (v := 0) X.x X.b (dk DL_code_0 11 rfl) (by decide) ?_
  exact vx_ret (W.widen (k := (rm_L_code).cells) (n := (rm_L_code).slots) (Nat.le_of_ble_eq_true rfl) (Nat.le_of_ble_eq_true rfl) (mr_iret X hr hlk hH (Or.inl ⟨rfl, v, h1, hp, rfl⟩) (dk DL_code_0 12 rfl)))
theorem hd_L_orbit : mHd yL_orbit 3 := ⟨by decide +kernel, by decide +kernel, by decide +kernel⟩
theorem DL_orbit_0 : ∀ t ∈ ([(0, .aload_n 2, 1), (1, .iconst 0, 1), (2, .aload_n 0, 1), (3, .iload_n 1, 1), (4, .invokevirtual 73, 3), (7, .lastore, 1), (8, .goto 6, 3), (11, .astore_n 3, 1), (12, .iconst 1, 1), (13, .ireturn, 1), (14, .iconst 0, 1), (15, .ireturn, 1)] : List (Nat × Instr × Nat)), decode cL_orbit t.1 = .ok (t.2.1, t.2.2) := by decide +kernel
abbrev rm_L_orbit : Room := { frames := 29, cells := 1, slots := 6, locals := 742 }
set_option maxHeartbeats 2000000 in
theorem c_L_orbit {l : Launch} {G : mG} {m : mM} {a : Nat} {fs : List Value} (ha : m a = some (.inr (LX11.1, fs))) {p0 : Int32} {post : Int64 → mM → Prop} {px : String → mM → Prop} (hM : xQ l G yX11_orbit cX11_orbit 2 (some FieldType.long) rm_X11_orbit [.ref a, .int p0] m (mQl G post) px) {ao : Nat} {fo : Nat → Int64} (hk : ∀ v m1, post v m1 → m1 ao = some (aJ G 1 fo)) (hx : ∀ E m1, px E m1 → E = exN 0) : hQ l G yL_orbit cL_orbit 4 (some .int) [(0, 8, 11, 19)] rm_L_orbit [.ref a, .int p0, .ref ao] m (mQi G (fun r m' => (r = 0 ∧ ∃ v m1, post v m1 ∧ m' = va_up m1 ao (some (aJ G 1 (vp_updL fo 0 (v))))) ∨ ∃ E, px E m' ∧ ((E = exN 0 ∧ r = 1)))) := by
  refine hp_of (by decide +kernel) (Nat.le_of_ble_eq_true rfl) ?_
  intro p e s m9 below meth c X hr hlk htab hH ls hl
  replace hl : lv_has ls 4 [(0, .ref a), (1, .int p0), (2, .ref ao)] := hl
  refine lv_aload_n X.x X.b (dk DL_orbit_0 0 rfl) rfl (lv_at hl 2 rfl) ?_
  refine lv_iconst (v := 0) X.x X.b (dk DL_orbit_0 1 rfl) (by decide) ?_
  refine lv_aload_n X.x X.b (dk DL_orbit_0 2 rfl) rfl (lv_at hl 0 rfl) ?_
  refine lv_iload_n X.x X.b (dk DL_orbit_0 3 rfl) rfl (lv_at hl 1 rfl) ?_
  refine mr_xl hH (mr_xrunV (As := [.int p0]) (rest := [.int 0, .ref ao]) X hH hM ha OX11.1 kM_L_73 kI_X11_orbit kS_X11_orbit kN_X11 kC_X11_orbit hd_X11_orbit ⟨Nat.le_of_ble_eq_true rfl, Nat.le_of_ble_eq_true rfl⟩ rfl hl.1 (Nat.le_of_ble_eq_true rfl) (dk DL_orbit_0 4 rfl) ⟨Nat.le_of_ble_eq_true rfl, Nat.le_of_ble_eq_true rfl⟩) (fun E h1 q9 H locs hp hH hth => ?_) (fun v h1 H locs hp hH => ?_)
  · have hE := hx E h1 hp
    subst hE
    refine mr_catch (own := RL) X htab hth [] (0, 8, 11, 19) [] rfl (fun z hz => by cases hz) rfl (by decide) kL_L_19 kX_0 ?_
    refine lv_astore_n (lv' := [(3, .ref q9), (0, .ref a), (1, .int p0), (2, .ref ao)]) X.x X.b (dk DL_orbit_0 7 rfl) rfl hl (by decide) rfl (fun ls hl => ?_)
    replace hl : lv_has ls 4 [] := lv_sub hl [] rfl
    refine lv_iconst (v := 1) X.x X.b (dk DL_orbit_0 8 rfl) (by decide) ?_
    exact vx_ret (W.widen (k := (rm_L_orbit).cells) (n := (rm_L_orbit).slots) (Nat.le_of_ble_eq_true rfl) (Nat.le_of_ble_eq_true rfl) (mr_iret X hr hlk hH (Or.inr ⟨_, hp, ⟨rfl, rfl⟩⟩) (dk DL_orbit_0 9 rfl)))
  refine mr_last X hH (hk _ _ hp) (show vp_in (nI 0) 1 from vp_in_nI (by decide) (by decide)) (dk DL_orbit_0 5 rfl) (fun H locs hH => ?_)
  refine lv_goto (tgt := 14) X.x X.b (dk DL_orbit_0 6 rfl) (by decide) ?_
  refine lv_iconst (v := 0) X.x X.b (dk DL_orbit_0 10 rfl) (by decide) ?_
  exact vx_ret (W.widen (k := (rm_L_orbit).cells) (n := (rm_L_orbit).slots) (Nat.le_of_ble_eq_true rfl) (Nat.le_of_ble_eq_true rfl) (mr_iret X hr hlk hH (Or.inl ⟨rfl, v, h1, hp, rfl⟩) (dk DL_orbit_0 11 rfl)))
theorem hd_L_like : mHd yL_like 3 := ⟨by decide +kernel, by decide +kernel, by decide +kernel⟩
theorem DL_like_0 : ∀ t ∈ ([(0, .aload_n 2, 1), (1, .iconst 0, 1), (2, .aload_n 0, 1), (3, .iload_n 1, 1), (4, .invokevirtual 76, 3), (7, .i2l, 1), (8, .lastore, 1), (9, .goto 9, 3), (12, .astore_n 3, 1), (13, .iconst 1, 1), (14, .ireturn, 1), (15, .astore_n 3, 1), (16, .iconst 2, 1), (17, .ireturn, 1), (18, .iconst 0, 1), (19, .ireturn, 1)] : List (Nat × Instr × Nat)), decode cL_like t.1 = .ok (t.2.1, t.2.2) := by decide +kernel
abbrev rm_L_like : Room := { frames := 29, cells := 1, slots := 6, locals := 743 }
set_option maxHeartbeats 2000000 in
theorem c_L_like {l : Launch} {G : mG} {m : mM} {a : Nat} {fs : List Value} (ha : m a = some (.inr (LX11.1, fs))) {p0 : Int32} {post : Int32 → mM → Prop} {px : String → mM → Prop} (hM : xQ l G yX11_like cX11_like 3 (some FieldType.int) rm_X11_like [.ref a, .int p0] m (mQi G post) px) {ao : Nat} {fo : Nat → Int64} (hk : ∀ v m1, post v m1 → m1 ao = some (aJ G 1 fo)) (hx : ∀ E m1, px E m1 → E = exN 0 ∨ E = exN 2) : hQ l G yL_like cL_like 4 (some .int) [(0, 9, 12, 19), (0, 9, 15, 79)] rm_L_like [.ref a, .int p0, .ref ao] m (mQi G (fun r m' => (r = 0 ∧ ∃ v m1, post v m1 ∧ m' = va_up m1 ao (some (aJ G 1 (vp_updL fo 0 (v.toInt64))))) ∨ ∃ E, px E m' ∧ ((E = exN 0 ∧ r = 1) ∨ (E = exN 2 ∧ r = 2)))) := by
  refine hp_of (by decide +kernel) (Nat.le_of_ble_eq_true rfl) ?_
  intro p e s m9 below meth c X hr hlk htab hH ls hl
  replace hl : lv_has ls 4 [(0, .ref a), (1, .int p0), (2, .ref ao)] := hl
  refine lv_aload_n X.x X.b (dk DL_like_0 0 rfl) rfl (lv_at hl 2 rfl) ?_
  refine lv_iconst (v := 0) X.x X.b (dk DL_like_0 1 rfl) (by decide) ?_
  refine lv_aload_n X.x X.b (dk DL_like_0 2 rfl) rfl (lv_at hl 0 rfl) ?_
  refine lv_iload_n X.x X.b (dk DL_like_0 3 rfl) rfl (lv_at hl 1 rfl) ?_
  refine mr_xi hH (mr_xrunV (As := [.int p0]) (rest := [.int 0, .ref ao]) X hH hM ha OX11.1 kM_L_76 kI_X11_like kS_X11_like kN_X11 kC_X11_like hd_X11_like ⟨Nat.le_of_ble_eq_true rfl, Nat.le_of_ble_eq_true rfl⟩ rfl hl.1 (Nat.le_of_ble_eq_true rfl) (dk DL_like_0 4 rfl) ⟨Nat.le_of_ble_eq_true rfl, Nat.le_of_ble_eq_true rfl⟩) (fun E h1 q9 H locs hp hH hth => ?_) (fun v h1 H locs hp hH => ?_)
  · rcases hx E h1 hp with hE | hE
    · subst hE
      refine mr_catch (own := RL) X htab hth [] (0, 9, 12, 19) [(0, 9, 15, 79)] rfl (fun z hz => by cases hz) rfl (by decide) kL_L_19 kX_0 ?_
      refine lv_astore_n (lv' := [(3, .ref q9), (0, .ref a), (1, .int p0), (2, .ref ao)]) X.x X.b (dk DL_like_0 8 rfl) rfl hl (by decide) rfl (fun ls hl => ?_)
      replace hl : lv_has ls 4 [] := lv_sub hl [] rfl
      refine lv_iconst (v := 1) X.x X.b (dk DL_like_0 9 rfl) (by decide) ?_
      exact vx_ret (W.widen (k := (rm_L_like).cells) (n := (rm_L_like).slots) (Nat.le_of_ble_eq_true rfl) (Nat.le_of_ble_eq_true rfl) (mr_iret X hr hlk hH (Or.inr ⟨_, hp, Or.inl ⟨rfl, rfl⟩⟩) (dk DL_like_0 10 rfl)))
    · subst hE
      refine mr_catch (own := RL) X htab hth [(0, 9, 12, 19)] (0, 9, 15, 79) [] rfl (fun z hz => by rcases List.mem_cons.mp hz with rfl | hz; exact ⟨by decide, _, kL_L_19, X.z.2.2.2.2.2.2.2.2.1⟩; cases hz) rfl (by decide) kL_L_79 kX_2 ?_
      refine lv_astore_n (lv' := [(3, .ref q9), (0, .ref a), (1, .int p0), (2, .ref ao)]) X.x X.b (dk DL_like_0 11 rfl) rfl hl (by decide) rfl (fun ls hl => ?_)
      replace hl : lv_has ls 4 [] := lv_sub hl [] rfl
      refine lv_iconst (v := 2) X.x X.b (dk DL_like_0 12 rfl) (by decide) ?_
      exact vx_ret (W.widen (k := (rm_L_like).cells) (n := (rm_L_like).slots) (Nat.le_of_ble_eq_true rfl) (Nat.le_of_ble_eq_true rfl) (mr_iret X hr hlk hH (Or.inr ⟨_, hp, Or.inr (⟨rfl, rfl⟩)⟩) (dk DL_like_0 13 rfl)))
  refine lv_i2l X.x X.b (dk DL_like_0 5 rfl) rfl ?_
  refine mr_last X hH (hk _ _ hp) (show vp_in (nI 0) 1 from vp_in_nI (by decide) (by decide)) (dk DL_like_0 6 rfl) (fun H locs hH => ?_)
  refine lv_goto (tgt := 18) X.x X.b (dk DL_like_0 7 rfl) (by decide) ?_
  refine lv_iconst (v := 0) X.x X.b (dk DL_like_0 14 rfl) (by decide) ?_
  exact vx_ret (W.widen (k := (rm_L_like).cells) (n := (rm_L_like).slots) (Nat.le_of_ble_eq_true rfl) (Nat.le_of_ble_eq_true rfl) (mr_iret X hr hlk hH (Or.inl ⟨rfl, v, h1, hp, rfl⟩) (dk DL_like_0 15 rfl)))
theorem hd_L_add : mHd yL_add 3 := ⟨by decide +kernel, by decide +kernel, by decide +kernel⟩
theorem DL_add_0 : ∀ t ∈ ([(0, .aload_n 3, 1), (1, .iconst 0, 1), (2, .aload_n 0, 1), (3, .lload_n 1, 1), (4, .invokevirtual 81, 3), (7, .i2l, 1), (8, .lastore, 1), (9, .goto 7, 3), (12, .astore 4, 2), (14, .iconst 1, 1), (15, .ireturn, 1), (16, .iconst 0, 1), (17, .ireturn, 1)] : List (Nat × Instr × Nat)), decode cL_add t.1 = .ok (t.2.1, t.2.2) := by decide +kernel
abbrev rm_L_add : Room := { frames := 9, cells := 10, slots := 300, locals := 222 }
set_option maxHeartbeats 2000000 in
theorem c_L_add {l : Launch} {G : mG} {m : mM} {a : Nat} {fs : List Value} (ha : m a = some (.inr (LX11.1, fs))) {p0 : Int64} {post : Int32 → mM → Prop} {px : String → mM → Prop} (hM : xQ l G yX11_add cX11_add 3 (some FieldType.int) rm_X11_add [.ref a, .long p0] m (mQi G post) px) {ao : Nat} {fo : Nat → Int64} (hk : ∀ v m1, post v m1 → m1 ao = some (aJ G 1 fo)) (hx : ∀ E m1, px E m1 → E = exN 1) : hQ l G yL_add cL_add 5 (some .int) [(0, 9, 12, 13)] rm_L_add [.ref a, .long p0, .ref ao] m (mQi G (fun r m' => (r = 0 ∧ ∃ v m1, post v m1 ∧ m' = va_up m1 ao (some (aJ G 1 (vp_updL fo 0 (v.toInt64))))) ∨ ∃ E, px E m' ∧ ((E = exN 1 ∧ r = 1)))) := by
  refine hp_of (by decide +kernel) (Nat.le_of_ble_eq_true rfl) ?_
  intro p e s m9 below meth c X hr hlk htab hH ls hl
  replace hl : lv_has ls 5 [(0, .ref a), (1, .long p0), (3, .ref ao)] := hl
  refine lv_aload_n X.x X.b (dk DL_add_0 0 rfl) rfl (lv_at hl 2 rfl) ?_
  refine lv_iconst (v := 0) X.x X.b (dk DL_add_0 1 rfl) (by decide) ?_
  refine lv_aload_n X.x X.b (dk DL_add_0 2 rfl) rfl (lv_at hl 0 rfl) ?_
  refine lv_lload_n X.x X.b (dk DL_add_0 3 rfl) rfl (lv_at hl 1 rfl) ?_
  refine mr_xi hH (mr_xrunV (As := [.long p0]) (rest := [.int 0, .ref ao]) X hH hM ha OX11.1 kM_L_81 kI_X11_add kS_X11_add kN_X11 kC_X11_add hd_X11_add ⟨Nat.le_of_ble_eq_true rfl, Nat.le_of_ble_eq_true rfl⟩ rfl hl.1 (Nat.le_of_ble_eq_true rfl) (dk DL_add_0 4 rfl) ⟨Nat.le_of_ble_eq_true rfl, Nat.le_of_ble_eq_true rfl⟩) (fun E h1 q9 H locs hp hH hth => ?_) (fun v h1 H locs hp hH => ?_)
  · have hE := hx E h1 hp
    subst hE
    refine mr_catch (own := RL) X htab hth [] (0, 9, 12, 13) [] rfl (fun z hz => by cases hz) rfl (by decide) kL_L_13 kX_1 ?_
    refine lv_astore (lv' := [(4, .ref q9), (0, .ref a), (1, .long p0), (3, .ref ao)]) X.x X.b (dk DL_add_0 8 rfl) hl (by decide) rfl (fun ls hl => ?_)
    replace hl : lv_has ls 5 [] := lv_sub hl [] rfl
    refine lv_iconst (v := 1) X.x X.b (dk DL_add_0 9 rfl) (by decide) ?_
    exact vx_ret (W.widen (k := (rm_L_add).cells) (n := (rm_L_add).slots) (Nat.le_of_ble_eq_true rfl) (Nat.le_of_ble_eq_true rfl) (mr_iret X hr hlk hH (Or.inr ⟨_, hp, ⟨rfl, rfl⟩⟩) (dk DL_add_0 10 rfl)))
  refine lv_i2l X.x X.b (dk DL_add_0 5 rfl) rfl ?_
  refine mr_last X hH (hk _ _ hp) (show vp_in (nI 0) 1 from vp_in_nI (by decide) (by decide)) (dk DL_add_0 6 rfl) (fun H locs hH => ?_)
  refine lv_goto (tgt := 16) X.x X.b (dk DL_add_0 7 rfl) (by decide) ?_
  refine lv_iconst (v := 0) X.x X.b (dk DL_add_0 11 rfl) (by decide) ?_
  exact vx_ret (W.widen (k := (rm_L_add).cells) (n := (rm_L_add).slots) (Nat.le_of_ble_eq_true rfl) (Nat.le_of_ble_eq_true rfl) (mr_iret X hr hlk hH (Or.inl ⟨rfl, v, h1, hp, rfl⟩) (dk DL_add_0 12 rfl)))
theorem hd_L_drop : mHd yL_drop 3 := ⟨by decide +kernel, by decide +kernel, by decide +kernel⟩
theorem DL_drop_0 : ∀ t ∈ ([(0, .aload_n 2, 1), (1, .iconst 0, 1), (2, .aload_n 0, 1), (3, .iload_n 1, 1), (4, .invokevirtual 84, 3), (7, .lastore, 1), (8, .goto 6, 3), (11, .astore_n 3, 1), (12, .iconst 1, 1), (13, .ireturn, 1), (14, .iconst 0, 1), (15, .ireturn, 1)] : List (Nat × Instr × Nat)), decode cL_drop t.1 = .ok (t.2.1, t.2.2) := by decide +kernel
abbrev rm_L_drop : Room := { frames := 9, cells := 10, slots := 300, locals := 221 }
set_option maxHeartbeats 2000000 in
theorem c_L_drop {l : Launch} {G : mG} {m : mM} {a : Nat} {fs : List Value} (ha : m a = some (.inr (LX11.1, fs))) {p0 : Int32} {post : Int64 → mM → Prop} {px : String → mM → Prop} (hM : xQ l G yX11_drop cX11_drop 2 (some FieldType.long) rm_X11_drop [.ref a, .int p0] m (mQl G post) px) {ao : Nat} {fo : Nat → Int64} (hk : ∀ v m1, post v m1 → m1 ao = some (aJ G 1 fo)) (hx : ∀ E m1, px E m1 → E = exN 0) : hQ l G yL_drop cL_drop 4 (some .int) [(0, 8, 11, 19)] rm_L_drop [.ref a, .int p0, .ref ao] m (mQi G (fun r m' => (r = 0 ∧ ∃ v m1, post v m1 ∧ m' = va_up m1 ao (some (aJ G 1 (vp_updL fo 0 (v))))) ∨ ∃ E, px E m' ∧ ((E = exN 0 ∧ r = 1)))) := by
  refine hp_of (by decide +kernel) (Nat.le_of_ble_eq_true rfl) ?_
  intro p e s m9 below meth c X hr hlk htab hH ls hl
  replace hl : lv_has ls 4 [(0, .ref a), (1, .int p0), (2, .ref ao)] := hl
  refine lv_aload_n X.x X.b (dk DL_drop_0 0 rfl) rfl (lv_at hl 2 rfl) ?_
  refine lv_iconst (v := 0) X.x X.b (dk DL_drop_0 1 rfl) (by decide) ?_
  refine lv_aload_n X.x X.b (dk DL_drop_0 2 rfl) rfl (lv_at hl 0 rfl) ?_
  refine lv_iload_n X.x X.b (dk DL_drop_0 3 rfl) rfl (lv_at hl 1 rfl) ?_
  refine mr_xl hH (mr_xrunV (As := [.int p0]) (rest := [.int 0, .ref ao]) X hH hM ha OX11.1 kM_L_84 kI_X11_drop kS_X11_drop kN_X11 kC_X11_drop hd_X11_drop ⟨Nat.le_of_ble_eq_true rfl, Nat.le_of_ble_eq_true rfl⟩ rfl hl.1 (Nat.le_of_ble_eq_true rfl) (dk DL_drop_0 4 rfl) ⟨Nat.le_of_ble_eq_true rfl, Nat.le_of_ble_eq_true rfl⟩) (fun E h1 q9 H locs hp hH hth => ?_) (fun v h1 H locs hp hH => ?_)
  · have hE := hx E h1 hp
    subst hE
    refine mr_catch (own := RL) X htab hth [] (0, 8, 11, 19) [] rfl (fun z hz => by cases hz) rfl (by decide) kL_L_19 kX_0 ?_
    refine lv_astore_n (lv' := [(3, .ref q9), (0, .ref a), (1, .int p0), (2, .ref ao)]) X.x X.b (dk DL_drop_0 7 rfl) rfl hl (by decide) rfl (fun ls hl => ?_)
    replace hl : lv_has ls 4 [] := lv_sub hl [] rfl
    refine lv_iconst (v := 1) X.x X.b (dk DL_drop_0 8 rfl) (by decide) ?_
    exact vx_ret (W.widen (k := (rm_L_drop).cells) (n := (rm_L_drop).slots) (Nat.le_of_ble_eq_true rfl) (Nat.le_of_ble_eq_true rfl) (mr_iret X hr hlk hH (Or.inr ⟨_, hp, ⟨rfl, rfl⟩⟩) (dk DL_drop_0 9 rfl)))
  refine mr_last X hH (hk _ _ hp) (show vp_in (nI 0) 1 from vp_in_nI (by decide) (by decide)) (dk DL_drop_0 5 rfl) (fun H locs hH => ?_)
  refine lv_goto (tgt := 14) X.x X.b (dk DL_drop_0 6 rfl) (by decide) ?_
  refine lv_iconst (v := 0) X.x X.b (dk DL_drop_0 10 rfl) (by decide) ?_
  exact vx_ret (W.widen (k := (rm_L_drop).cells) (n := (rm_L_drop).slots) (Nat.le_of_ble_eq_true rfl) (Nat.le_of_ble_eq_true rfl) (mr_iret X hr hlk hH (Or.inl ⟨rfl, v, h1, hp, rfl⟩) (dk DL_drop_0 11 rfl)))
theorem hd_L_left : mHd yL_left 3 := ⟨by decide +kernel, by decide +kernel, by decide +kernel⟩
theorem DL_left_0 : ∀ t ∈ ([(0, .aload_n 2, 1), (1, .iconst 0, 1), (2, .aload_n 0, 1), (3, .iload_n 1, 1), (4, .invokevirtual 87, 3), (7, .i2l, 1), (8, .lastore, 1), (9, .goto 6, 3), (12, .astore_n 3, 1), (13, .iconst 1, 1), (14, .ireturn, 1), (15, .iconst 0, 1), (16, .ireturn, 1)] : List (Nat × Instr × Nat)), decode cL_left t.1 = .ok (t.2.1, t.2.2) := by decide +kernel
abbrev rm_L_left : Room := { frames := 9, cells := 10, slots := 300, locals := 221 }
set_option maxHeartbeats 2000000 in
theorem c_L_left {l : Launch} {G : mG} {m : mM} {a : Nat} {fs : List Value} (ha : m a = some (.inr (LX11.1, fs))) {p0 : Int32} {post : Int32 → mM → Prop} {px : String → mM → Prop} (hM : xQ l G yX11_left cX11_left 2 (some FieldType.int) rm_X11_left [.ref a, .int p0] m (mQi G post) px) {ao : Nat} {fo : Nat → Int64} (hk : ∀ v m1, post v m1 → m1 ao = some (aJ G 1 fo)) (hx : ∀ E m1, px E m1 → E = exN 0) : hQ l G yL_left cL_left 4 (some .int) [(0, 9, 12, 19)] rm_L_left [.ref a, .int p0, .ref ao] m (mQi G (fun r m' => (r = 0 ∧ ∃ v m1, post v m1 ∧ m' = va_up m1 ao (some (aJ G 1 (vp_updL fo 0 (v.toInt64))))) ∨ ∃ E, px E m' ∧ ((E = exN 0 ∧ r = 1)))) := by
  refine hp_of (by decide +kernel) (Nat.le_of_ble_eq_true rfl) ?_
  intro p e s m9 below meth c X hr hlk htab hH ls hl
  replace hl : lv_has ls 4 [(0, .ref a), (1, .int p0), (2, .ref ao)] := hl
  refine lv_aload_n X.x X.b (dk DL_left_0 0 rfl) rfl (lv_at hl 2 rfl) ?_
  refine lv_iconst (v := 0) X.x X.b (dk DL_left_0 1 rfl) (by decide) ?_
  refine lv_aload_n X.x X.b (dk DL_left_0 2 rfl) rfl (lv_at hl 0 rfl) ?_
  refine lv_iload_n X.x X.b (dk DL_left_0 3 rfl) rfl (lv_at hl 1 rfl) ?_
  refine mr_xi hH (mr_xrunV (As := [.int p0]) (rest := [.int 0, .ref ao]) X hH hM ha OX11.1 kM_L_87 kI_X11_left kS_X11_left kN_X11 kC_X11_left hd_X11_left ⟨Nat.le_of_ble_eq_true rfl, Nat.le_of_ble_eq_true rfl⟩ rfl hl.1 (Nat.le_of_ble_eq_true rfl) (dk DL_left_0 4 rfl) ⟨Nat.le_of_ble_eq_true rfl, Nat.le_of_ble_eq_true rfl⟩) (fun E h1 q9 H locs hp hH hth => ?_) (fun v h1 H locs hp hH => ?_)
  · have hE := hx E h1 hp
    subst hE
    refine mr_catch (own := RL) X htab hth [] (0, 9, 12, 19) [] rfl (fun z hz => by cases hz) rfl (by decide) kL_L_19 kX_0 ?_
    refine lv_astore_n (lv' := [(3, .ref q9), (0, .ref a), (1, .int p0), (2, .ref ao)]) X.x X.b (dk DL_left_0 8 rfl) rfl hl (by decide) rfl (fun ls hl => ?_)
    replace hl : lv_has ls 4 [] := lv_sub hl [] rfl
    refine lv_iconst (v := 1) X.x X.b (dk DL_left_0 9 rfl) (by decide) ?_
    exact vx_ret (W.widen (k := (rm_L_left).cells) (n := (rm_L_left).slots) (Nat.le_of_ble_eq_true rfl) (Nat.le_of_ble_eq_true rfl) (mr_iret X hr hlk hH (Or.inr ⟨_, hp, ⟨rfl, rfl⟩⟩) (dk DL_left_0 10 rfl)))
  refine lv_i2l X.x X.b (dk DL_left_0 5 rfl) rfl ?_
  refine mr_last X hH (hk _ _ hp) (show vp_in (nI 0) 1 from vp_in_nI (by decide) (by decide)) (dk DL_left_0 6 rfl) (fun H locs hH => ?_)
  refine lv_goto (tgt := 15) X.x X.b (dk DL_left_0 7 rfl) (by decide) ?_
  refine lv_iconst (v := 0) X.x X.b (dk DL_left_0 11 rfl) (by decide) ?_
  exact vx_ret (W.widen (k := (rm_L_left).cells) (n := (rm_L_left).slots) (Nat.le_of_ble_eq_true rfl) (Nat.le_of_ble_eq_true rfl) (mr_iret X hr hlk hH (Or.inl ⟨rfl, v, h1, hp, rfl⟩) (dk DL_left_0 12 rfl)))
theorem hd_L_perform : mHd yL_perform 3 := ⟨by decide +kernel, by decide +kernel, by decide +kernel⟩
theorem DL_perform_0 : ∀ t ∈ ([(0, .aload_n 2, 1), (1, .iconst 0, 1), (2, .aload_n 0, 1), (3, .iload_n 1, 1), (4, .invokevirtual 90, 3), (7, .i2l, 1), (8, .lastore, 1), (9, .goto 9, 3), (12, .astore_n 3, 1), (13, .iconst 1, 1), (14, .ireturn, 1), (15, .astore_n 3, 1), (16, .iconst 2, 1), (17, .ireturn, 1), (18, .iconst 0, 1), (19, .ireturn, 1)] : List (Nat × Instr × Nat)), decode cL_perform t.1 = .ok (t.2.1, t.2.2) := by decide +kernel
abbrev rm_L_perform : Room := { frames := 11, cells := 161, slots := 7887, locals := 255 }
set_option maxHeartbeats 2000000 in
theorem c_L_perform {l : Launch} {G : mG} {m : mM} {a : Nat} {fs : List Value} (ha : m a = some (.inr (LX11.1, fs))) {p0 : Int32} {post : Int32 → mM → Prop} {px : String → mM → Prop} (hM : xQ l G yX11_perform cX11_perform 6 (some FieldType.int) rm_X11_perform [.ref a, .int p0] m (mQi G post) px) {ao : Nat} {fo : Nat → Int64} (hk : ∀ v m1, post v m1 → m1 ao = some (aJ G 1 fo)) (hx : ∀ E m1, px E m1 → E = exN 0 ∨ E = exN 2) : hQ l G yL_perform cL_perform 4 (some .int) [(0, 9, 12, 19), (0, 9, 15, 79)] rm_L_perform [.ref a, .int p0, .ref ao] m (mQi G (fun r m' => (r = 0 ∧ ∃ v m1, post v m1 ∧ m' = va_up m1 ao (some (aJ G 1 (vp_updL fo 0 (v.toInt64))))) ∨ ∃ E, px E m' ∧ ((E = exN 0 ∧ r = 1) ∨ (E = exN 2 ∧ r = 2)))) := by
  refine hp_of (by decide +kernel) (Nat.le_of_ble_eq_true rfl) ?_
  intro p e s m9 below meth c X hr hlk htab hH ls hl
  replace hl : lv_has ls 4 [(0, .ref a), (1, .int p0), (2, .ref ao)] := hl
  refine lv_aload_n X.x X.b (dk DL_perform_0 0 rfl) rfl (lv_at hl 2 rfl) ?_
  refine lv_iconst (v := 0) X.x X.b (dk DL_perform_0 1 rfl) (by decide) ?_
  refine lv_aload_n X.x X.b (dk DL_perform_0 2 rfl) rfl (lv_at hl 0 rfl) ?_
  refine lv_iload_n X.x X.b (dk DL_perform_0 3 rfl) rfl (lv_at hl 1 rfl) ?_
  refine mr_xi hH (mr_xrunV (As := [.int p0]) (rest := [.int 0, .ref ao]) X hH hM ha OX11.1 kM_L_90 kI_X11_perform kS_X11_perform kN_X11 kC_X11_perform hd_X11_perform ⟨Nat.le_of_ble_eq_true rfl, Nat.le_of_ble_eq_true rfl⟩ rfl hl.1 (Nat.le_of_ble_eq_true rfl) (dk DL_perform_0 4 rfl) ⟨Nat.le_of_ble_eq_true rfl, Nat.le_of_ble_eq_true rfl⟩) (fun E h1 q9 H locs hp hH hth => ?_) (fun v h1 H locs hp hH => ?_)
  · rcases hx E h1 hp with hE | hE
    · subst hE
      refine mr_catch (own := RL) X htab hth [] (0, 9, 12, 19) [(0, 9, 15, 79)] rfl (fun z hz => by cases hz) rfl (by decide) kL_L_19 kX_0 ?_
      refine lv_astore_n (lv' := [(3, .ref q9), (0, .ref a), (1, .int p0), (2, .ref ao)]) X.x X.b (dk DL_perform_0 8 rfl) rfl hl (by decide) rfl (fun ls hl => ?_)
      replace hl : lv_has ls 4 [] := lv_sub hl [] rfl
      refine lv_iconst (v := 1) X.x X.b (dk DL_perform_0 9 rfl) (by decide) ?_
      exact vx_ret (W.widen (k := (rm_L_perform).cells) (n := (rm_L_perform).slots) (Nat.le_of_ble_eq_true rfl) (Nat.le_of_ble_eq_true rfl) (mr_iret X hr hlk hH (Or.inr ⟨_, hp, Or.inl ⟨rfl, rfl⟩⟩) (dk DL_perform_0 10 rfl)))
    · subst hE
      refine mr_catch (own := RL) X htab hth [(0, 9, 12, 19)] (0, 9, 15, 79) [] rfl (fun z hz => by rcases List.mem_cons.mp hz with rfl | hz; exact ⟨by decide, _, kL_L_19, X.z.2.2.2.2.2.2.2.2.1⟩; cases hz) rfl (by decide) kL_L_79 kX_2 ?_
      refine lv_astore_n (lv' := [(3, .ref q9), (0, .ref a), (1, .int p0), (2, .ref ao)]) X.x X.b (dk DL_perform_0 11 rfl) rfl hl (by decide) rfl (fun ls hl => ?_)
      replace hl : lv_has ls 4 [] := lv_sub hl [] rfl
      refine lv_iconst (v := 2) X.x X.b (dk DL_perform_0 12 rfl) (by decide) ?_
      exact vx_ret (W.widen (k := (rm_L_perform).cells) (n := (rm_L_perform).slots) (Nat.le_of_ble_eq_true rfl) (Nat.le_of_ble_eq_true rfl) (mr_iret X hr hlk hH (Or.inr ⟨_, hp, Or.inr (⟨rfl, rfl⟩)⟩) (dk DL_perform_0 13 rfl)))
  refine lv_i2l X.x X.b (dk DL_perform_0 5 rfl) rfl ?_
  refine mr_last X hH (hk _ _ hp) (show vp_in (nI 0) 1 from vp_in_nI (by decide) (by decide)) (dk DL_perform_0 6 rfl) (fun H locs hH => ?_)
  refine lv_goto (tgt := 18) X.x X.b (dk DL_perform_0 7 rfl) (by decide) ?_
  refine lv_iconst (v := 0) X.x X.b (dk DL_perform_0 14 rfl) (by decide) ?_
  exact vx_ret (W.widen (k := (rm_L_perform).cells) (n := (rm_L_perform).slots) (Nat.le_of_ble_eq_true rfl) (Nat.le_of_ble_eq_true rfl) (mr_iret X hr hlk hH (Or.inl ⟨rfl, v, h1, hp, rfl⟩) (dk DL_perform_0 15 rfl)))
theorem hd_L_tray : mHd yL_tray 4 := ⟨by decide +kernel, by decide +kernel, by decide +kernel⟩
theorem DL_tray_0 : ∀ t ∈ ([(0, .aload_n 0, 1), (1, .iload_n 1, 1), (2, .iload_n 2, 1), (3, .iload_n 3, 1), (4, .invokevirtual 93, 3), (7, .goto 11, 3), (10, .astore 4, 2), (12, .iconst 1, 1), (13, .ireturn, 1), (14, .astore 4, 2), (16, .iconst 2, 1), (17, .ireturn, 1), (18, .iconst 0, 1), (19, .ireturn, 1)] : List (Nat × Instr × Nat)), decode cL_tray t.1 = .ok (t.2.1, t.2.2) := by decide +kernel
abbrev rm_L_tray : Room := { frames := 7, cells := 5, slots := 203, locals := 114 }
set_option maxHeartbeats 2000000 in
theorem c_L_tray {l : Launch} {G : mG} {m : mM} {a : Nat} {fs : List Value} (ha : m a = some (.inr (LX11.1, fs))) {p0 : Int32} {p1 : Int32} {p2 : Int32} {post : mM → Prop} {px : String → mM → Prop} (hM : xQ l G yX11_tray cX11_tray 5 none rm_X11_tray [.ref a, .int p0, .int p1, .int p2] m (mQv G post) px) (hx : ∀ E m1, px E m1 → E = exN 0 ∨ E = exN 1) : hQ l G yL_tray cL_tray 5 (some .int) [(0, 7, 10, 19), (0, 7, 14, 13)] rm_L_tray [.ref a, .int p0, .int p1, .int p2] m (mQi G (fun r m' => (r = 0 ∧ post m') ∨ ∃ E, px E m' ∧ ((E = exN 0 ∧ r = 1) ∨ (E = exN 1 ∧ r = 2)))) := by
  refine hp_of (by decide +kernel) (Nat.le_of_ble_eq_true rfl) ?_
  intro p e s m9 below meth c X hr hlk htab hH ls hl
  replace hl : lv_has ls 5 [(0, .ref a), (1, .int p0), (2, .int p1), (3, .int p2)] := hl
  refine lv_aload_n X.x X.b (dk DL_tray_0 0 rfl) rfl (lv_at hl 0 rfl) ?_
  refine lv_iload_n X.x X.b (dk DL_tray_0 1 rfl) rfl (lv_at hl 1 rfl) ?_
  refine lv_iload_n X.x X.b (dk DL_tray_0 2 rfl) rfl (lv_at hl 2 rfl) ?_
  refine lv_iload_n X.x X.b (dk DL_tray_0 3 rfl) rfl (lv_at hl 3 rfl) ?_
  refine mr_xv hH (mr_xrunV (As := [.int p0, .int p1, .int p2]) (rest := []) X hH hM ha OX11.1 kM_L_93 kI_X11_tray kS_X11_tray kN_X11 kC_X11_tray hd_X11_tray ⟨Nat.le_of_ble_eq_true rfl, Nat.le_of_ble_eq_true rfl⟩ rfl hl.1 (Nat.le_of_ble_eq_true rfl) (dk DL_tray_0 4 rfl) ⟨Nat.le_of_ble_eq_true rfl, Nat.le_of_ble_eq_true rfl⟩) (fun E h1 q9 H locs hp hH hth => ?_) (fun h1 H locs hp hH => ?_)
  · rcases hx E h1 hp with hE | hE
    · subst hE
      refine mr_catch (own := RL) X htab hth [] (0, 7, 10, 19) [(0, 7, 14, 13)] rfl (fun z hz => by cases hz) rfl (by decide) kL_L_19 kX_0 ?_
      refine lv_astore (lv' := [(4, .ref q9), (0, .ref a), (1, .int p0), (2, .int p1), (3, .int p2)]) X.x X.b (dk DL_tray_0 6 rfl) hl (by decide) rfl (fun ls hl => ?_)
      replace hl : lv_has ls 5 [] := lv_sub hl [] rfl
      refine lv_iconst (v := 1) X.x X.b (dk DL_tray_0 7 rfl) (by decide) ?_
      exact vx_ret (W.widen (k := (rm_L_tray).cells) (n := (rm_L_tray).slots) (Nat.le_of_ble_eq_true rfl) (Nat.le_of_ble_eq_true rfl) (mr_iret X hr hlk hH (Or.inr ⟨_, hp, Or.inl ⟨rfl, rfl⟩⟩) (dk DL_tray_0 8 rfl)))
    · subst hE
      refine mr_catch (own := RL) X htab hth [(0, 7, 10, 19)] (0, 7, 14, 13) [] rfl (fun z hz => by rcases List.mem_cons.mp hz with rfl | hz; exact ⟨by decide, _, kL_L_19, X.z.2.2.2.2.2.2.2.1⟩; cases hz) rfl (by decide) kL_L_13 kX_1 ?_
      refine lv_astore (lv' := [(4, .ref q9), (0, .ref a), (1, .int p0), (2, .int p1), (3, .int p2)]) X.x X.b (dk DL_tray_0 9 rfl) hl (by decide) rfl (fun ls hl => ?_)
      replace hl : lv_has ls 5 [] := lv_sub hl [] rfl
      refine lv_iconst (v := 2) X.x X.b (dk DL_tray_0 10 rfl) (by decide) ?_
      exact vx_ret (W.widen (k := (rm_L_tray).cells) (n := (rm_L_tray).slots) (Nat.le_of_ble_eq_true rfl) (Nat.le_of_ble_eq_true rfl) (mr_iret X hr hlk hH (Or.inr ⟨_, hp, Or.inr (⟨rfl, rfl⟩)⟩) (dk DL_tray_0 11 rfl)))
  refine lv_goto (tgt := 18) X.x X.b (dk DL_tray_0 5 rfl) (by decide) ?_
  refine lv_iconst (v := 0) X.x X.b (dk DL_tray_0 12 rfl) (by decide) ?_
  exact vx_ret (W.widen (k := (rm_L_tray).cells) (n := (rm_L_tray).slots) (Nat.le_of_ble_eq_true rfl) (Nat.le_of_ble_eq_true rfl) (mr_iret X hr hlk hH (Or.inl ⟨rfl, hp⟩) (dk DL_tray_0 13 rfl)))
theorem hd_L_write : mHd yL_write 5 := ⟨by decide +kernel, by decide +kernel, by decide +kernel⟩
theorem DL_write_0 : ∀ t ∈ ([(0, .aload 5, 2), (2, .iconst 0, 1), (3, .aload_n 0, 1), (4, .iload_n 1, 1), (5, .iload_n 2, 1), (6, .lload_n 3, 1), (7, .invokevirtual 97, 3), (10, .lastore, 1), (11, .goto 15, 3), (14, .astore 6, 2), (16, .iconst 1, 1), (17, .ireturn, 1), (18, .astore 6, 2), (20, .iconst 2, 1), (21, .ireturn, 1), (22, .astore 6, 2), (24, .iconst 3, 1), (25, .ireturn, 1), (26, .iconst 0, 1), (27, .ireturn, 1)] : List (Nat × Instr × Nat)), decode cL_write t.1 = .ok (t.2.1, t.2.2) := by decide +kernel
abbrev rm_L_write : Room := { frames := 8, cells := 2, slots := 12, locals := 137 }
set_option maxHeartbeats 2000000 in
theorem c_L_write {l : Launch} {G : mG} {m : mM} {a : Nat} {fs : List Value} (ha : m a = some (.inr (LX11.1, fs))) {p0 : Int32} {p1 : Int32} {p2 : Int64} {post : Int64 → mM → Prop} {px : String → mM → Prop} (hM : xQ l G yX11_write cX11_write 6 (some FieldType.long) rm_X11_write [.ref a, .int p0, .int p1, .long p2] m (mQl G post) px) {ao : Nat} {fo : Nat → Int64} (hk : ∀ v m1, post v m1 → m1 ao = some (aJ G 1 fo)) (hx : ∀ E m1, px E m1 → E = exN 0 ∨ E = exN 2 ∨ E = exN 3) : hQ l G yL_write cL_write 7 (some .int) [(0, 11, 14, 19), (0, 11, 18, 79), (0, 11, 22, 101)] rm_L_write [.ref a, .int p0, .int p1, .long p2, .ref ao] m (mQi G (fun r m' => (r = 0 ∧ ∃ v m1, post v m1 ∧ m' = va_up m1 ao (some (aJ G 1 (vp_updL fo 0 (v))))) ∨ ∃ E, px E m' ∧ ((E = exN 0 ∧ r = 1) ∨ (E = exN 2 ∧ r = 2) ∨ (E = exN 3 ∧ r = 3)))) := by
  refine hp_of (by decide +kernel) (Nat.le_of_ble_eq_true rfl) ?_
  intro p e s m9 below meth c X hr hlk htab hH ls hl
  replace hl : lv_has ls 7 [(0, .ref a), (1, .int p0), (2, .int p1), (3, .long p2), (5, .ref ao)] := hl
  refine lv_aload X.x X.b (dk DL_write_0 0 rfl) (lv_at hl 4 rfl) ?_
  refine lv_iconst (v := 0) X.x X.b (dk DL_write_0 1 rfl) (by decide) ?_
  refine lv_aload_n X.x X.b (dk DL_write_0 2 rfl) rfl (lv_at hl 0 rfl) ?_
  refine lv_iload_n X.x X.b (dk DL_write_0 3 rfl) rfl (lv_at hl 1 rfl) ?_
  refine lv_iload_n X.x X.b (dk DL_write_0 4 rfl) rfl (lv_at hl 2 rfl) ?_
  refine lv_lload_n X.x X.b (dk DL_write_0 5 rfl) rfl (lv_at hl 3 rfl) ?_
  refine mr_xl hH (mr_xrunV (As := [.int p0, .int p1, .long p2]) (rest := [.int 0, .ref ao]) X hH hM ha OX11.1 kM_L_97 kI_X11_write kS_X11_write kN_X11 kC_X11_write hd_X11_write ⟨Nat.le_of_ble_eq_true rfl, Nat.le_of_ble_eq_true rfl⟩ rfl hl.1 (Nat.le_of_ble_eq_true rfl) (dk DL_write_0 6 rfl) ⟨Nat.le_of_ble_eq_true rfl, Nat.le_of_ble_eq_true rfl⟩) (fun E h1 q9 H locs hp hH hth => ?_) (fun v h1 H locs hp hH => ?_)
  · rcases hx E h1 hp with hE | hE | hE
    · subst hE
      refine mr_catch (own := RL) X htab hth [] (0, 11, 14, 19) [(0, 11, 18, 79), (0, 11, 22, 101)] rfl (fun z hz => by cases hz) rfl (by decide) kL_L_19 kX_0 ?_
      refine lv_astore (lv' := [(6, .ref q9), (0, .ref a), (1, .int p0), (2, .int p1), (3, .long p2), (5, .ref ao)]) X.x X.b (dk DL_write_0 9 rfl) hl (by decide) rfl (fun ls hl => ?_)
      replace hl : lv_has ls 7 [] := lv_sub hl [] rfl
      refine lv_iconst (v := 1) X.x X.b (dk DL_write_0 10 rfl) (by decide) ?_
      exact vx_ret (W.widen (k := (rm_L_write).cells) (n := (rm_L_write).slots) (Nat.le_of_ble_eq_true rfl) (Nat.le_of_ble_eq_true rfl) (mr_iret X hr hlk hH (Or.inr ⟨_, hp, Or.inl ⟨rfl, rfl⟩⟩) (dk DL_write_0 11 rfl)))
    · subst hE
      refine mr_catch (own := RL) X htab hth [(0, 11, 14, 19)] (0, 11, 18, 79) [(0, 11, 22, 101)] rfl (fun z hz => by rcases List.mem_cons.mp hz with rfl | hz; exact ⟨by decide, _, kL_L_19, X.z.2.2.2.2.2.2.2.2.1⟩; cases hz) rfl (by decide) kL_L_79 kX_2 ?_
      refine lv_astore (lv' := [(6, .ref q9), (0, .ref a), (1, .int p0), (2, .int p1), (3, .long p2), (5, .ref ao)]) X.x X.b (dk DL_write_0 12 rfl) hl (by decide) rfl (fun ls hl => ?_)
      replace hl : lv_has ls 7 [] := lv_sub hl [] rfl
      refine lv_iconst (v := 2) X.x X.b (dk DL_write_0 13 rfl) (by decide) ?_
      exact vx_ret (W.widen (k := (rm_L_write).cells) (n := (rm_L_write).slots) (Nat.le_of_ble_eq_true rfl) (Nat.le_of_ble_eq_true rfl) (mr_iret X hr hlk hH (Or.inr ⟨_, hp, Or.inr (Or.inl ⟨rfl, rfl⟩)⟩) (dk DL_write_0 14 rfl)))
    · subst hE
      refine mr_catch (own := RL) X htab hth [(0, 11, 14, 19), (0, 11, 18, 79)] (0, 11, 22, 101) [] rfl (fun z hz => by rcases List.mem_cons.mp hz with rfl | hz; exact ⟨by decide, _, kL_L_19, X.z.2.2.2.2.2.2.2.2.2.1⟩; rcases List.mem_cons.mp hz with rfl | hz; exact ⟨by decide, _, kL_L_79, X.z.2.2.2.2.2.2.2.2.2.2⟩; cases hz) rfl (by decide) kL_L_101 kX_3 ?_
      refine lv_astore (lv' := [(6, .ref q9), (0, .ref a), (1, .int p0), (2, .int p1), (3, .long p2), (5, .ref ao)]) X.x X.b (dk DL_write_0 15 rfl) hl (by decide) rfl (fun ls hl => ?_)
      replace hl : lv_has ls 7 [] := lv_sub hl [] rfl
      refine lv_iconst (v := 3) X.x X.b (dk DL_write_0 16 rfl) (by decide) ?_
      exact vx_ret (W.widen (k := (rm_L_write).cells) (n := (rm_L_write).slots) (Nat.le_of_ble_eq_true rfl) (Nat.le_of_ble_eq_true rfl) (mr_iret X hr hlk hH (Or.inr ⟨_, hp, Or.inr (Or.inr (⟨rfl, rfl⟩))⟩) (dk DL_write_0 17 rfl)))
  refine mr_last X hH (hk _ _ hp) (show vp_in (nI 0) 1 from vp_in_nI (by decide) (by decide)) (dk DL_write_0 7 rfl) (fun H locs hH => ?_)
  refine lv_goto (tgt := 26) X.x X.b (dk DL_write_0 8 rfl) (by decide) ?_
  refine lv_iconst (v := 0) X.x X.b (dk DL_write_0 18 rfl) (by decide) ?_
  exact vx_ret (W.widen (k := (rm_L_write).cells) (n := (rm_L_write).slots) (Nat.le_of_ble_eq_true rfl) (Nat.le_of_ble_eq_true rfl) (mr_iret X hr hlk hH (Or.inl ⟨rfl, v, h1, hp, rfl⟩) (dk DL_write_0 19 rfl)))
theorem hd_L_pour : mHd yL_pour 3 := ⟨by decide +kernel, by decide +kernel, by decide +kernel⟩
theorem DL_pour_0 : ∀ t ∈ ([(0, .aload_n 2, 1), (1, .iconst 0, 1), (2, .aload_n 0, 1), (3, .iload_n 1, 1), (4, .invokevirtual 103, 3), (7, .i2l, 1), (8, .lastore, 1), (9, .goto 9, 3), (12, .astore_n 3, 1), (13, .iconst 1, 1), (14, .ireturn, 1), (15, .astore_n 3, 1), (16, .iconst 2, 1), (17, .ireturn, 1), (18, .iconst 0, 1), (19, .ireturn, 1)] : List (Nat × Instr × Nat)), decode cL_pour t.1 = .ok (t.2.1, t.2.2) := by decide +kernel
abbrev rm_L_pour : Room := { frames := 8, cells := 1, slots := 6, locals := 136 }
set_option maxHeartbeats 2000000 in
theorem c_L_pour {l : Launch} {G : mG} {m : mM} {a : Nat} {fs : List Value} (ha : m a = some (.inr (LX11.1, fs))) {p0 : Int32} {post : Int32 → mM → Prop} {px : String → mM → Prop} (hM : xQ l G yX11_pour cX11_pour 5 (some FieldType.int) rm_X11_pour [.ref a, .int p0] m (mQi G post) px) {ao : Nat} {fo : Nat → Int64} (hk : ∀ v m1, post v m1 → m1 ao = some (aJ G 1 fo)) (hx : ∀ E m1, px E m1 → E = exN 0 ∨ E = exN 2) : hQ l G yL_pour cL_pour 4 (some .int) [(0, 9, 12, 19), (0, 9, 15, 79)] rm_L_pour [.ref a, .int p0, .ref ao] m (mQi G (fun r m' => (r = 0 ∧ ∃ v m1, post v m1 ∧ m' = va_up m1 ao (some (aJ G 1 (vp_updL fo 0 (v.toInt64))))) ∨ ∃ E, px E m' ∧ ((E = exN 0 ∧ r = 1) ∨ (E = exN 2 ∧ r = 2)))) := by
  refine hp_of (by decide +kernel) (Nat.le_of_ble_eq_true rfl) ?_
  intro p e s m9 below meth c X hr hlk htab hH ls hl
  replace hl : lv_has ls 4 [(0, .ref a), (1, .int p0), (2, .ref ao)] := hl
  refine lv_aload_n X.x X.b (dk DL_pour_0 0 rfl) rfl (lv_at hl 2 rfl) ?_
  refine lv_iconst (v := 0) X.x X.b (dk DL_pour_0 1 rfl) (by decide) ?_
  refine lv_aload_n X.x X.b (dk DL_pour_0 2 rfl) rfl (lv_at hl 0 rfl) ?_
  refine lv_iload_n X.x X.b (dk DL_pour_0 3 rfl) rfl (lv_at hl 1 rfl) ?_
  refine mr_xi hH (mr_xrunV (As := [.int p0]) (rest := [.int 0, .ref ao]) X hH hM ha OX11.1 kM_L_103 kI_X11_pour kS_X11_pour kN_X11 kC_X11_pour hd_X11_pour ⟨Nat.le_of_ble_eq_true rfl, Nat.le_of_ble_eq_true rfl⟩ rfl hl.1 (Nat.le_of_ble_eq_true rfl) (dk DL_pour_0 4 rfl) ⟨Nat.le_of_ble_eq_true rfl, Nat.le_of_ble_eq_true rfl⟩) (fun E h1 q9 H locs hp hH hth => ?_) (fun v h1 H locs hp hH => ?_)
  · rcases hx E h1 hp with hE | hE
    · subst hE
      refine mr_catch (own := RL) X htab hth [] (0, 9, 12, 19) [(0, 9, 15, 79)] rfl (fun z hz => by cases hz) rfl (by decide) kL_L_19 kX_0 ?_
      refine lv_astore_n (lv' := [(3, .ref q9), (0, .ref a), (1, .int p0), (2, .ref ao)]) X.x X.b (dk DL_pour_0 8 rfl) rfl hl (by decide) rfl (fun ls hl => ?_)
      replace hl : lv_has ls 4 [] := lv_sub hl [] rfl
      refine lv_iconst (v := 1) X.x X.b (dk DL_pour_0 9 rfl) (by decide) ?_
      exact vx_ret (W.widen (k := (rm_L_pour).cells) (n := (rm_L_pour).slots) (Nat.le_of_ble_eq_true rfl) (Nat.le_of_ble_eq_true rfl) (mr_iret X hr hlk hH (Or.inr ⟨_, hp, Or.inl ⟨rfl, rfl⟩⟩) (dk DL_pour_0 10 rfl)))
    · subst hE
      refine mr_catch (own := RL) X htab hth [(0, 9, 12, 19)] (0, 9, 15, 79) [] rfl (fun z hz => by rcases List.mem_cons.mp hz with rfl | hz; exact ⟨by decide, _, kL_L_19, X.z.2.2.2.2.2.2.2.2.1⟩; cases hz) rfl (by decide) kL_L_79 kX_2 ?_
      refine lv_astore_n (lv' := [(3, .ref q9), (0, .ref a), (1, .int p0), (2, .ref ao)]) X.x X.b (dk DL_pour_0 11 rfl) rfl hl (by decide) rfl (fun ls hl => ?_)
      replace hl : lv_has ls 4 [] := lv_sub hl [] rfl
      refine lv_iconst (v := 2) X.x X.b (dk DL_pour_0 12 rfl) (by decide) ?_
      exact vx_ret (W.widen (k := (rm_L_pour).cells) (n := (rm_L_pour).slots) (Nat.le_of_ble_eq_true rfl) (Nat.le_of_ble_eq_true rfl) (mr_iret X hr hlk hH (Or.inr ⟨_, hp, Or.inr (⟨rfl, rfl⟩)⟩) (dk DL_pour_0 13 rfl)))
  refine lv_i2l X.x X.b (dk DL_pour_0 5 rfl) rfl ?_
  refine mr_last X hH (hk _ _ hp) (show vp_in (nI 0) 1 from vp_in_nI (by decide) (by decide)) (dk DL_pour_0 6 rfl) (fun H locs hH => ?_)
  refine lv_goto (tgt := 18) X.x X.b (dk DL_pour_0 7 rfl) (by decide) ?_
  refine lv_iconst (v := 0) X.x X.b (dk DL_pour_0 14 rfl) (by decide) ?_
  exact vx_ret (W.widen (k := (rm_L_pour).cells) (n := (rm_L_pour).slots) (Nat.le_of_ble_eq_true rfl) (Nat.le_of_ble_eq_true rfl) (mr_iret X hr hlk hH (Or.inl ⟨rfl, v, h1, hp, rfl⟩) (dk DL_pour_0 15 rfl)))
theorem hd_L_image : mHd yL_image 2 := ⟨by decide +kernel, by decide +kernel, by decide +kernel⟩
theorem DL_image_0 : ∀ t ∈ ([(0, .aload_n 0, 1), (1, .iload_n 1, 1), (2, .invokevirtual 106, 3), (5, .goto 6, 3), (8, .astore_n 2, 1), (9, .iconst 1, 1), (10, .ireturn, 1), (11, .iconst 0, 1), (12, .ireturn, 1)] : List (Nat × Instr × Nat)), decode cL_image t.1 = .ok (t.2.1, t.2.2) := by decide +kernel
abbrev rm_L_image : Room := { frames := 7, cells := 5, slots := 203, locals := 112 }
set_option maxHeartbeats 2000000 in
theorem c_L_image {l : Launch} {G : mG} {m : mM} {a : Nat} {fs : List Value} (ha : m a = some (.inr (LX11.1, fs))) {p0 : Int32} {post : mM → Prop} {px : String → mM → Prop} (hM : xQ l G yX11_image cX11_image 3 none rm_X11_image [.ref a, .int p0] m (mQv G post) px) (hx : ∀ E m1, px E m1 → E = exN 0) : hQ l G yL_image cL_image 3 (some .int) [(0, 5, 8, 19)] rm_L_image [.ref a, .int p0] m (mQi G (fun r m' => (r = 0 ∧ post m') ∨ ∃ E, px E m' ∧ ((E = exN 0 ∧ r = 1)))) := by
  refine hp_of (by decide +kernel) (Nat.le_of_ble_eq_true rfl) ?_
  intro p e s m9 below meth c X hr hlk htab hH ls hl
  replace hl : lv_has ls 3 [(0, .ref a), (1, .int p0)] := hl
  refine lv_aload_n X.x X.b (dk DL_image_0 0 rfl) rfl (lv_at hl 0 rfl) ?_
  refine lv_iload_n X.x X.b (dk DL_image_0 1 rfl) rfl (lv_at hl 1 rfl) ?_
  refine mr_xv hH (mr_xrunV (As := [.int p0]) (rest := []) X hH hM ha OX11.1 kM_L_106 kI_X11_image kS_X11_image kN_X11 kC_X11_image hd_X11_image ⟨Nat.le_of_ble_eq_true rfl, Nat.le_of_ble_eq_true rfl⟩ rfl hl.1 (Nat.le_of_ble_eq_true rfl) (dk DL_image_0 2 rfl) ⟨Nat.le_of_ble_eq_true rfl, Nat.le_of_ble_eq_true rfl⟩) (fun E h1 q9 H locs hp hH hth => ?_) (fun h1 H locs hp hH => ?_)
  · have hE := hx E h1 hp
    subst hE
    refine mr_catch (own := RL) X htab hth [] (0, 5, 8, 19) [] rfl (fun z hz => by cases hz) rfl (by decide) kL_L_19 kX_0 ?_
    refine lv_astore_n (lv' := [(2, .ref q9), (0, .ref a), (1, .int p0)]) X.x X.b (dk DL_image_0 4 rfl) rfl hl (by decide) rfl (fun ls hl => ?_)
    replace hl : lv_has ls 3 [] := lv_sub hl [] rfl
    refine lv_iconst (v := 1) X.x X.b (dk DL_image_0 5 rfl) (by decide) ?_
    exact vx_ret (W.widen (k := (rm_L_image).cells) (n := (rm_L_image).slots) (Nat.le_of_ble_eq_true rfl) (Nat.le_of_ble_eq_true rfl) (mr_iret X hr hlk hH (Or.inr ⟨_, hp, ⟨rfl, rfl⟩⟩) (dk DL_image_0 6 rfl)))
  refine lv_goto (tgt := 11) X.x X.b (dk DL_image_0 3 rfl) (by decide) ?_
  refine lv_iconst (v := 0) X.x X.b (dk DL_image_0 7 rfl) (by decide) ?_
  exact vx_ret (W.widen (k := (rm_L_image).cells) (n := (rm_L_image).slots) (Nat.le_of_ble_eq_true rfl) (Nat.le_of_ble_eq_true rfl) (mr_iret X hr hlk hH (Or.inl ⟨rfl, hp⟩) (dk DL_image_0 8 rfl)))
theorem hd_L_restore : mHd yL_restore 2 := ⟨by decide +kernel, by decide +kernel, by decide +kernel⟩
theorem DL_restore_0 : ∀ t ∈ ([(0, .aload_n 0, 1), (1, .iload_n 1, 1), (2, .invokevirtual 110, 3), (5, .goto 9, 3), (8, .astore_n 2, 1), (9, .iconst 1, 1), (10, .ireturn, 1), (11, .astore_n 2, 1), (12, .iconst 2, 1), (13, .ireturn, 1), (14, .iconst 0, 1), (15, .ireturn, 1)] : List (Nat × Instr × Nat)), decode cL_restore t.1 = .ok (t.2.1, t.2.2) := by decide +kernel
abbrev rm_L_restore : Room := { frames := 8, cells := 1, slots := 6, locals := 133 }
set_option maxHeartbeats 2000000 in
theorem c_L_restore {l : Launch} {G : mG} {m : mM} {a : Nat} {fs : List Value} (ha : m a = some (.inr (LX11.1, fs))) {p0 : Int32} {post : mM → Prop} {px : String → mM → Prop} (hM : xQ l G yX11_restore cX11_restore 2 none rm_X11_restore [.ref a, .int p0] m (mQv G post) px) (hx : ∀ E m1, px E m1 → E = exN 0 ∨ E = exN 2) : hQ l G yL_restore cL_restore 3 (some .int) [(0, 5, 8, 19), (0, 5, 11, 79)] rm_L_restore [.ref a, .int p0] m (mQi G (fun r m' => (r = 0 ∧ post m') ∨ ∃ E, px E m' ∧ ((E = exN 0 ∧ r = 1) ∨ (E = exN 2 ∧ r = 2)))) := by
  refine hp_of (by decide +kernel) (Nat.le_of_ble_eq_true rfl) ?_
  intro p e s m9 below meth c X hr hlk htab hH ls hl
  replace hl : lv_has ls 3 [(0, .ref a), (1, .int p0)] := hl
  refine lv_aload_n X.x X.b (dk DL_restore_0 0 rfl) rfl (lv_at hl 0 rfl) ?_
  refine lv_iload_n X.x X.b (dk DL_restore_0 1 rfl) rfl (lv_at hl 1 rfl) ?_
  refine mr_xv hH (mr_xrunV (As := [.int p0]) (rest := []) X hH hM ha OX11.1 kM_L_110 kI_X11_restore kS_X11_restore kN_X11 kC_X11_restore hd_X11_restore ⟨Nat.le_of_ble_eq_true rfl, Nat.le_of_ble_eq_true rfl⟩ rfl hl.1 (Nat.le_of_ble_eq_true rfl) (dk DL_restore_0 2 rfl) ⟨Nat.le_of_ble_eq_true rfl, Nat.le_of_ble_eq_true rfl⟩) (fun E h1 q9 H locs hp hH hth => ?_) (fun h1 H locs hp hH => ?_)
  · rcases hx E h1 hp with hE | hE
    · subst hE
      refine mr_catch (own := RL) X htab hth [] (0, 5, 8, 19) [(0, 5, 11, 79)] rfl (fun z hz => by cases hz) rfl (by decide) kL_L_19 kX_0 ?_
      refine lv_astore_n (lv' := [(2, .ref q9), (0, .ref a), (1, .int p0)]) X.x X.b (dk DL_restore_0 4 rfl) rfl hl (by decide) rfl (fun ls hl => ?_)
      replace hl : lv_has ls 3 [] := lv_sub hl [] rfl
      refine lv_iconst (v := 1) X.x X.b (dk DL_restore_0 5 rfl) (by decide) ?_
      exact vx_ret (W.widen (k := (rm_L_restore).cells) (n := (rm_L_restore).slots) (Nat.le_of_ble_eq_true rfl) (Nat.le_of_ble_eq_true rfl) (mr_iret X hr hlk hH (Or.inr ⟨_, hp, Or.inl ⟨rfl, rfl⟩⟩) (dk DL_restore_0 6 rfl)))
    · subst hE
      refine mr_catch (own := RL) X htab hth [(0, 5, 8, 19)] (0, 5, 11, 79) [] rfl (fun z hz => by rcases List.mem_cons.mp hz with rfl | hz; exact ⟨by decide, _, kL_L_19, X.z.2.2.2.2.2.2.2.2.1⟩; cases hz) rfl (by decide) kL_L_79 kX_2 ?_
      refine lv_astore_n (lv' := [(2, .ref q9), (0, .ref a), (1, .int p0)]) X.x X.b (dk DL_restore_0 7 rfl) rfl hl (by decide) rfl (fun ls hl => ?_)
      replace hl : lv_has ls 3 [] := lv_sub hl [] rfl
      refine lv_iconst (v := 2) X.x X.b (dk DL_restore_0 8 rfl) (by decide) ?_
      exact vx_ret (W.widen (k := (rm_L_restore).cells) (n := (rm_L_restore).slots) (Nat.le_of_ble_eq_true rfl) (Nat.le_of_ble_eq_true rfl) (mr_iret X hr hlk hH (Or.inr ⟨_, hp, Or.inr (⟨rfl, rfl⟩)⟩) (dk DL_restore_0 9 rfl)))
  refine lv_goto (tgt := 14) X.x X.b (dk DL_restore_0 3 rfl) (by decide) ?_
  refine lv_iconst (v := 0) X.x X.b (dk DL_restore_0 10 rfl) (by decide) ?_
  exact vx_ret (W.widen (k := (rm_L_restore).cells) (n := (rm_L_restore).slots) (Nat.le_of_ble_eq_true rfl) (Nat.le_of_ble_eq_true rfl) (mr_iret X hr hlk hH (Or.inl ⟨rfl, hp⟩) (dk DL_restore_0 11 rfl)))
