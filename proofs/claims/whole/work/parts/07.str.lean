/-! STRING constants: length and charAt, by the JDK's own code -/
section MST
variable {p : Program} {l : Launch} {e : Env} {R : Room} {s : State} {m : MethodId} {args : Array Value} {below : List Frame} {meth : Method} {c : Code} {H : Heap} {locs : List Loc} {cells slots : Nat} {Q : State → Prop}
variable {cc : ByteArray} {nL pc idx : Nat} {ls : Array Slot} {rest : List Value} {G : mG} {h : mM} {own : String} {a : Nat}
theorem mr_tret (X : mX G p m c cc nL s args own) {ty : FieldType} (hr : meth.sig.returnType = some ty) (hlk : meth.locks = false) (hH : mH G h s.heap H locs) {post : Int32 → mM → Prop} {v : Int32} (hv : narrow ty (.int v) = .int v) (hp : post v h) (hdg : decode cc pc = .ok (.ireturn, 1)) : W p l e R s m args below meth c H locs cells slots (MQ below (mQi G post) args s cells slots (mA G)) (F0 m pc ls [.int v]) :=
  W.zret X.x X.b hr hv (fun _ ht _ => ⟨⟨v, h, rfl, hp, show mI G h _ by rw [ht]; exact hH.1⟩, hH.2.1.F ht⟩) hH.2.1.2.2 hdg hlk
theorem mX.z (X : mX G p m c cc nL s args own) : mZ G s := X.2.2.2
theorem mr_runVO {y : MethodName} {cb : ByteArray} {mL n : Nat} {ret : Option FieldType} {rm : Room} {As : List Value} {Qc : Array Value → State → Outcome → State → Prop} (X : mX G p m c cc nL s args own) (hH : mH G h s.heap H locs) (hM : cQ l G y cb mL ret rm (.ref a :: As) h Qc) (hO : va_O y.cls a (mA G) s s.heap) (k1 : Cond.methodLink own idx y ∈ GW) (k2 : Cond.instanceMethod y ∈ GW) (k5 : Cond.selects y.cls y y ∈ GW) (k3 : Cond.initialized y.cls ∈ GW) (k4 : Cond.code y cb mL ret ∈ GW) (hd : mHd y n) (hR : rm.frames + 1 ≤ R.frames ∧ 8 + (mL + 11) + rm.locals ≤ R.locals) (hn : As.length = n) (hls : ls.size = nL) (hw : (rest.map fun v => v.category).sum ≤ 8) (hdg : decode cc pc = .ok (.invokevirtual idx, 3)) (hf : cells + rm.cells ≤ R.cells ∧ slots + rm.slots ≤ R.slots) :
    va_Run p l e R s m args below meth c H locs cells slots rm.cells rm.slots (F0 m pc ls (As.reverse ++ .ref a :: rest)) rest (Qc (Value.ref a :: As).toArray) (mA G) := by
  refine va_runV (n := n) X.1 hM ⟨callB_of n X.ts (gw_goodIn k4) rfl rfl rfl (X.ts _ k3) (X.ts _ k1) hd hR, X.ts _ k2, X.ts _ k5⟩ ⟨mPc_blind _, ?_, fun _ hU hW => mPc_at X hH hU hW⟩ rfl hn hls rfl (lv_room hw) hdg hf
  obtain ⟨cell, h1, h2, h3, -⟩ := hO.kept hH.2.1.2.1
  exact ⟨cell, h1, h2, h3⟩
theorem mr_ldcS (X : mX G p m c cc nL s args own) (i : Nat) (hi : i < sTab.length) (ho : (sEnt i).1 = own) (hk : (sEnt i).2.1 = idx) (hdg : decode cc pc = .ok (.ldc idx, 2))
    (kk : W p l e R s m args below meth c H locs cells slots Q (F0 m (pc + 2) ls (.ref (sAd G i) :: rest))) : W p l e R s m args below meth c H locs cells slots Q (F0 m pc ls rest) := by
  have h1 := (X.z.1 i hi).1
  rw [ho, hk] at h1
  exact va_ldcS X.x X.b X.ow h1 hdg kk
end MST
theorem DJ3_checkIndex_8e157_0 : ∀ t ∈ ([(0, .iload_n 0, 1), (1, .ifCond .lt 8, 3), (4, .iload_n 0, 1), (5, .iload_n 1, 1), (6, .if_icmp .lt 10, 3), (9, .aload_n 2, 1), (10, .iload_n 0, 1), (11, .iload_n 1, 1), (12, .invokestatic 95, 3), (15, .athrow, 1), (16, .iload_n 0, 1), (17, .ireturn, 1)] : List (Nat × Instr × Nat)), decode cJ3_checkIndex_8e157 t.1 = .ok (t.2.1, t.2.2) := by decide +kernel
abbrev rm_J3_checkIndex_8e157 : Room := { frames := 0, cells := 0, slots := 0, locals := 0 }
theorem hd_J3_checkIndex_8e157 : mHd yJ3_checkIndex_8e157 3 := ⟨by decide +kernel, by decide +kernel, by decide +kernel⟩
set_option maxHeartbeats 4000000 in
set_option maxRecDepth 100000 in
theorem c_J3_checkIndex_8e157 {l : Launch} {G : mG} {h : mM} {k N : Nat} (hk : k < N) (hN : N < 2 ^ 31) (o : Option Nat) : cQ l G yJ3_checkIndex_8e157 cJ3_checkIndex_8e157 3 (some .int) rm_J3_checkIndex_8e157 [.int (nI k), .int (nI N), va_rf o] h (mQi G (fun r h1 => r = nI k ∧ h1 = h)) := by
  cases o <;>
  (refine mp_of (by decide +kernel) (Nat.le_of_ble_eq_true rfl) ?_
   intro p e s m below meth c X hr hlk hH hname ls hl
   have hl : lv_has ls 3 [(0, .int (nI k)), (1, .int (nI N))] := lv_sub hl [0, 1] rfl
   refine lv_iload_n X.x X.b (dk DJ3_checkIndex_8e157_0 0 rfl) rfl (lv_at hl 0 rfl) ?_
   refine lv_if_lt (tgt := 9) X.x X.b (dk DJ3_checkIndex_8e157_0 1 rfl) (by decide) (fun c1 => absurd c1 (nI_pos (by omega))) (fun c1 => ?_)
   refine lv_iload_n X.x X.b (dk DJ3_checkIndex_8e157_0 2 rfl) rfl (lv_at hl 0 rfl) ?_
   refine lv_iload_n X.x X.b (dk DJ3_checkIndex_8e157_0 3 rfl) rfl (lv_at hl 1 rfl) ?_
   refine lv_icmp_lt (tgt := 16) X.x X.b (dk DJ3_checkIndex_8e157_0 4 rfl) (by decide) (fun c2 => ?_) (fun c2 => absurd ((nI_ltI (by omega) hN).mpr hk) c2)
   refine lv_iload_n X.x X.b (dk DJ3_checkIndex_8e157_0 10 rfl) rfl (lv_at hl 0 rfl) ?_
   exact mr_iret X hr hlk hH ⟨rfl, rfl⟩ (dk DJ3_checkIndex_8e157_0 11 rfl))
theorem DJ0_checkIndex_df160_0 : ∀ t ∈ ([(0, .iload_n 0, 1), (1, .iload_n 1, 1), (2, .getstatic 1053, 3), (5, .invokestatic 1059, 3), (8, .pop, 1), (9, .return_, 1)] : List (Nat × Instr × Nat)), decode cJ0_checkIndex_df160 t.1 = .ok (t.2.1, t.2.2) := by decide +kernel
abbrev rm_J0_checkIndex_df160 : Room := { frames := 1, cells := 0, slots := 0, locals := 22 }
theorem hd_J0_checkIndex_df160 : mHd yJ0_checkIndex_df160 2 := ⟨by decide +kernel, by decide +kernel, by decide +kernel⟩
set_option maxHeartbeats 4000000 in
set_option maxRecDepth 100000 in
theorem c_J0_checkIndex_df160 {l : Launch} {G : mG} {h : mM} {k N : Nat} (hk : k < N) (hN : N < 2 ^ 31) : cQ l G yJ0_checkIndex_df160 cJ0_checkIndex_df160 2 none rm_J0_checkIndex_df160 [.int (nI k), .int (nI N)] h (mQv G (fun h1 => h1 = h)) := by
  refine mp_of (by decide +kernel) (Nat.le_of_ble_eq_true rfl) ?_
  intro p e s m below meth c X hr hlk hH hname ls hl
  replace hl : lv_has ls 2 [(0, .int (nI k)), (1, .int (nI N))] := hl
  refine lv_iload_n X.x X.b (dk DJ0_checkIndex_df160_0 0 rfl) rfl (lv_at hl 0 rfl) ?_
  refine lv_iload_n X.x X.b (dk DJ0_checkIndex_df160_0 1 rfl) rfl (lv_at hl 1 rfl) ?_
  obtain ⟨o, hZ⟩ : ∃ o : Option Nat, va_Z "jdk/internal/util/Preconditions" "SIOOBE_FORMATTER" "Ljava/util/function/BiFunction;" (va_rf o) (mA G) s s.heap := by
    rcases X.z.2.2.1 with q | ⟨t, q⟩
    · exact ⟨none, q⟩
    · exact ⟨some t, q⟩
  refine va_gets X.x X.b hZ hH.2.1 X.ow (X.ts _ kF_J0_1053) (fun _ q => q) (dk DJ0_checkIndex_df160_0 2 rfl) ?_
  refine mr_ci0 hH ⟨rfl, rfl⟩ (mr_runS (As := [.int (nI k), .int (nI N), va_rf o]) (rest := []) X hH (c_J3_checkIndex_8e157 hk hN o) kM_J0_1059 kT_J3_checkIndex_8e157 kN_J3 kC_J3_checkIndex_8e157 hd_J3_checkIndex_8e157 ⟨Nat.le_of_ble_eq_true rfl, Nat.le_of_ble_eq_true rfl⟩ rfl hl.1 (Nat.le_of_ble_eq_true rfl) (dk DJ0_checkIndex_df160_0 3 rfl) ⟨Nat.zero_le _, Nat.zero_le _⟩) (fun r h1 H locs hp hH => ?_)
  rw [hp.2] at hH
  refine lv_pop X.x X.b (dk DJ0_checkIndex_df160_0 4 rfl) rfl ?_
  exact mr_vret X hr hlk hH rfl (dk DJ0_checkIndex_df160_0 5 rfl)
theorem sLen_lt : ∀ i, i < sTab.length → sLen i < 1000 := by decide +kernel
/-- the char at k -/
def sCh (i k : Nat) : Int32 := ((sByt i k &&& 255).toUInt32 % 65536).toInt32
theorem DJ1_charAt_3b067_0 : ∀ t ∈ ([(0, .iload_n 1, 1), (1, .aload_n 0, 1), (2, .arraylength, 1), (3, .invokestatic 9, 3), (6, .aload_n 0, 1), (7, .iload_n 1, 1), (8, .baload, 1), (9, .sipush 255, 3), (12, .iand, 1), (13, .i2c, 1), (14, .ireturn, 1)] : List (Nat × Instr × Nat)), decode cJ1_charAt_3b067 t.1 = .ok (t.2.1, t.2.2) := by decide +kernel
abbrev rm_J1_charAt_3b067 : Room := { frames := 2, cells := 0, slots := 0, locals := 43 }
theorem hd_J1_charAt_3b067 : mHd yJ1_charAt_3b067 2 := ⟨by decide +kernel, by decide +kernel, by decide +kernel⟩
set_option maxHeartbeats 4000000 in
set_option maxRecDepth 100000 in
theorem c_J1_charAt_3b067 {l : Launch} {G : mG} {h : mM} {i k : Nat} (hi : i < sTab.length) (hk : k < sLen i) : cQ l G yJ1_charAt_3b067 cJ1_charAt_3b067 2 (some .char) rm_J1_charAt_3b067 [.ref (sBd G i), .int (nI k)] h (mQi G (fun r h1 => r = sCh i k ∧ h1 = h)) := by
  have hN := sLen_lt i hi
  refine mp_of (by decide +kernel) (Nat.le_of_ble_eq_true rfl) ?_
  intro p e s m below meth c X hr hlk hH hname ls hl
  replace hl : lv_has ls 2 [(0, .ref (sBd G i)), (1, .int (nI k))] := hl
  have hT := (X.z.1 i hi).2.2.2.2
  refine lv_iload_n X.x X.b (dk DJ1_charAt_3b067_0 0 rfl) rfl (lv_at hl 1 rfl) ?_
  refine lv_aload_n X.x X.b (dk DJ1_charAt_3b067_0 1 rfl) rfl (lv_at hl 0 rfl) ?_
  refine va_tlen X.x X.b hT hH.2.1 rfl (dk DJ1_charAt_3b067_0 2 rfl) ?_
  refine mr_cv0 hH ⟨rfl, rfl⟩ (mr_runS (As := [.int (nI k), .int (nI (sLen i))]) (rest := []) X hH (c_J0_checkIndex_df160 hk (by omega)) kM_J1_9 kT_J0_checkIndex_df160 kN_J0 kC_J0_checkIndex_df160 hd_J0_checkIndex_df160 ⟨Nat.le_of_ble_eq_true rfl, Nat.le_of_ble_eq_true rfl⟩ rfl hl.1 (Nat.le_of_ble_eq_true rfl) (dk DJ1_charAt_3b067_0 3 rfl) ⟨Nat.zero_le _, Nat.zero_le _⟩) (fun h1 H locs hp hH => ?_)
  rw [hp] at hH
  refine lv_aload_n X.x X.b (dk DJ1_charAt_3b067_0 4 rfl) rfl (lv_at hl 0 rfl) ?_
  refine lv_iload_n X.x X.b (dk DJ1_charAt_3b067_0 5 rfl) rfl (lv_at hl 1 rfl) ?_
  refine va_tb (v := .int (sByt i k)) X.x X.b hT hH.2.1 (vp_in_nI hk (by omega)) (by rw [nI_clamp (by omega)]) (dk DJ1_charAt_3b067_0 6 rfl) ?_
  refine lv_sipush (v := 255) X.x X.b (dk DJ1_charAt_3b067_0 7 rfl) (by decide) ?_
  refine lv_iand X.x X.b (dk DJ1_charAt_3b067_0 8 rfl) ?_
  refine lv_i2c X.x X.b (dk DJ1_charAt_3b067_0 9 rfl) rfl ?_
  exact mr_tret X hr hlk hH (pk_nc _) ⟨rfl, rfl⟩ (dk DJ1_charAt_3b067_0 10 rfl)
theorem DJ0_coder_7d493_0 : ∀ t ∈ ([(0, .getstatic 38, 3), (3, .ifCond .eq 10, 3), (6, .aload_n 0, 1), (7, .getfield 15, 3), (10, .goto 4, 3), (13, .iconst 1, 1), (14, .ireturn, 1)] : List (Nat × Instr × Nat)), decode cJ0_coder_7d493 t.1 = .ok (t.2.1, t.2.2) := by decide +kernel
abbrev rm_J0_coder_7d493 : Room := { frames := 0, cells := 0, slots := 0, locals := 0 }
theorem hd_J0_coder_7d493 : mHd yJ0_coder_7d493 0 := ⟨by decide +kernel, by decide +kernel, by decide +kernel⟩
set_option maxHeartbeats 4000000 in
set_option maxRecDepth 100000 in
theorem c_J0_coder_7d493 {l : Launch} {G : mG} {h : mM} {i : Nat} (hi : i < sTab.length) : cQ l G yJ0_coder_7d493 cJ0_coder_7d493 1 (some .byte) rm_J0_coder_7d493 [.ref (sAd G i)] h (mQi G (fun r h1 => r = 0 ∧ h1 = h)) := by
  refine mp_of (by decide +kernel) (Nat.le_of_ble_eq_true rfl) ?_
  intro p e s m below meth c X hr hlk hH hname ls hl
  replace hl : lv_has ls 1 [(0, .ref (sAd G i))] := hl
  refine va_gets X.x X.b X.z.2.1 hH.2.1 X.ow (X.ts _ kF_J0_38) (fun _ q => q) (dk DJ0_coder_7d493_0 0 rfl) ?_
  refine lv_if_eq (tgt := 13) X.x X.b (dk DJ0_coder_7d493_0 1 rfl) (by decide) (fun c1 => absurd c1 (by decide)) (fun c1 => ?_)
  refine lv_aload_n X.x X.b (dk DJ0_coder_7d493_0 2 rfl) rfl (lv_at hl 0 rfl) ?_
  refine vk_getf X.x X.b (X.z.1 i hi).2.2.1 hH.2.1 X.ow (X.ts _ kF_J0_15) (fun _ q => q) (dk DJ0_coder_7d493_0 3 rfl) ?_
  refine lv_goto (tgt := 14) X.x X.b (dk DJ0_coder_7d493_0 4 rfl) (by decide) ?_
  exact mr_tret X hr hlk hH rfl ⟨rfl, rfl⟩ (dk DJ0_coder_7d493_0 6 rfl)
theorem DJ0_isLatin1_aae02_0 : ∀ t ∈ ([(0, .getstatic 38, 3), (3, .ifCond .eq 14, 3), (6, .aload_n 0, 1), (7, .getfield 15, 3), (10, .ifCond .ne 7, 3), (13, .iconst 1, 1), (14, .goto 4, 3), (17, .iconst 0, 1), (18, .ireturn, 1)] : List (Nat × Instr × Nat)), decode cJ0_isLatin1_aae02 t.1 = .ok (t.2.1, t.2.2) := by decide +kernel
abbrev rm_J0_isLatin1_aae02 : Room := { frames := 0, cells := 0, slots := 0, locals := 0 }
theorem hd_J0_isLatin1_aae02 : mHd yJ0_isLatin1_aae02 0 := ⟨by decide +kernel, by decide +kernel, by decide +kernel⟩
set_option maxHeartbeats 4000000 in
set_option maxRecDepth 100000 in
theorem c_J0_isLatin1_aae02 {l : Launch} {G : mG} {h : mM} {i : Nat} (hi : i < sTab.length) : cQ l G yJ0_isLatin1_aae02 cJ0_isLatin1_aae02 1 (some .boolean) rm_J0_isLatin1_aae02 [.ref (sAd G i)] h (mQi G (fun r h1 => r = 1 ∧ h1 = h)) := by
  refine mp_of (by decide +kernel) (Nat.le_of_ble_eq_true rfl) ?_
  intro p e s m below meth c X hr hlk hH hname ls hl
  replace hl : lv_has ls 1 [(0, .ref (sAd G i))] := hl
  refine va_gets X.x X.b X.z.2.1 hH.2.1 X.ow (X.ts _ kF_J0_38) (fun _ q => q) (dk DJ0_isLatin1_aae02_0 0 rfl) ?_
  refine lv_if_eq (tgt := 17) X.x X.b (dk DJ0_isLatin1_aae02_0 1 rfl) (by decide) (fun c1 => absurd c1 (by decide)) (fun c1 => ?_)
  refine lv_aload_n X.x X.b (dk DJ0_isLatin1_aae02_0 2 rfl) rfl (lv_at hl 0 rfl) ?_
  refine vk_getf X.x X.b (X.z.1 i hi).2.2.1 hH.2.1 X.ow (X.ts _ kF_J0_15) (fun _ q => q) (dk DJ0_isLatin1_aae02_0 3 rfl) ?_
  refine lv_if_ne (tgt := 17) X.x X.b (dk DJ0_isLatin1_aae02_0 4 rfl) (by decide) (fun c2 => absurd rfl c2) (fun c2 => ?_)
  refine lv_iconst (v := 1) X.x X.b (dk DJ0_isLatin1_aae02_0 5 rfl) (by decide) ?_
  refine lv_goto (tgt := 18) X.x X.b (dk DJ0_isLatin1_aae02_0 6 rfl) (by decide) ?_
  exact mr_zret X hr hlk hH rfl ⟨rfl, rfl⟩ (dk DJ0_isLatin1_aae02_0 8 rfl)
theorem DJ0_length_8abf5_0 : ∀ t ∈ ([(0, .aload_n 0, 1), (1, .getfield 9, 3), (4, .arraylength, 1), (5, .aload_n 0, 1), (6, .invokevirtual 335, 3), (9, .ishr, 1), (10, .ireturn, 1)] : List (Nat × Instr × Nat)), decode cJ0_length_8abf5 t.1 = .ok (t.2.1, t.2.2) := by decide +kernel
abbrev rm_J0_length_8abf5 : Room := { frames := 1, cells := 0, slots := 0, locals := 20 }
theorem hd_J0_length_8abf5 : mHd yJ0_length_8abf5 0 := ⟨by decide +kernel, by decide +kernel, by decide +kernel⟩
set_option maxHeartbeats 4000000 in
set_option maxRecDepth 100000 in
theorem c_J0_length_8abf5 {l : Launch} {G : mG} {h : mM} {i : Nat} (hi : i < sTab.length) : cQ l G yJ0_length_8abf5 cJ0_length_8abf5 1 (some .int) rm_J0_length_8abf5 [.ref (sAd G i)] h (mQi G (fun r h1 => r = nI (sLen i) ∧ h1 = h)) := by
  refine mp_of (by decide +kernel) (Nat.le_of_ble_eq_true rfl) ?_
  intro p e s m below meth c X hr hlk hH hname ls hl
  replace hl : lv_has ls 1 [(0, .ref (sAd G i))] := hl
  refine lv_aload_n X.x X.b (dk DJ0_length_8abf5_0 0 rfl) rfl (lv_at hl 0 rfl) ?_
  refine vk_getf X.x X.b (X.z.1 i hi).2.2.2.1 hH.2.1 X.ow (X.ts _ kF_J0_9) (fun _ q => q) (dk DJ0_length_8abf5_0 1 rfl) ?_
  refine va_tlen X.x X.b (X.z.1 i hi).2.2.2.2 hH.2.1 rfl (dk DJ0_length_8abf5_0 2 rfl) ?_
  refine lv_aload_n X.x X.b (dk DJ0_length_8abf5_0 3 rfl) rfl (lv_at hl 0 rfl) ?_
  refine mr_ci0 hH ⟨rfl, rfl⟩ (mr_runVO (As := []) (rest := [.int (Int32.ofNat (sLen i))]) X hH (c_J0_coder_7d493 hi) (X.z.1 i hi).2.1 kM_J0_335 kI_J0_coder_7d493 kS_J0_coder_7d493 kN_J0 kC_J0_coder_7d493 hd_J0_coder_7d493 ⟨Nat.le_of_ble_eq_true rfl, Nat.le_of_ble_eq_true rfl⟩ rfl hl.1 (Nat.le_of_ble_eq_true rfl) (dk DJ0_length_8abf5_0 4 rfl) ⟨Nat.zero_le _, Nat.zero_le _⟩) (fun r h1 H locs hp hH => ?_)
  rw [hp.1]; rw [hp.2] at hH
  refine lv_ishr X.x X.b (dk DJ0_length_8abf5_0 5 rfl) ?_
  exact mr_iret X hr hlk hH ⟨sc_shr0 (by have := sLen_lt i hi; omega), rfl⟩ (dk DJ0_length_8abf5_0 6 rfl)
theorem DJ0_charAt_5068e_0 : ∀ t ∈ ([(0, .aload_n 0, 1), (1, .invokevirtual 492, 3), (4, .ifCond .eq 12, 3), (7, .aload_n 0, 1), (8, .getfield 9, 3), (11, .iload_n 1, 1), (12, .invokestatic 495, 3), (15, .ireturn, 1), (16, .aload_n 0, 1), (17, .getfield 9, 3), (20, .iload_n 1, 1), (21, .invokestatic 498, 3), (24, .ireturn, 1)] : List (Nat × Instr × Nat)), decode cJ0_charAt_5068e t.1 = .ok (t.2.1, t.2.2) := by decide +kernel
abbrev rm_J0_charAt_5068e : Room := { frames := 3, cells := 0, slots := 0, locals := 64 }
theorem hd_J0_charAt_5068e : mHd yJ0_charAt_5068e 1 := ⟨by decide +kernel, by decide +kernel, by decide +kernel⟩
set_option maxHeartbeats 4000000 in
set_option maxRecDepth 100000 in
theorem c_J0_charAt_5068e {l : Launch} {G : mG} {h : mM} {i k : Nat} (hi : i < sTab.length) (hk : k < sLen i) : cQ l G yJ0_charAt_5068e cJ0_charAt_5068e 2 (some .char) rm_J0_charAt_5068e [.ref (sAd G i), .int (nI k)] h (mQi G (fun r h1 => r = sCh i k ∧ h1 = h)) := by
  refine mp_of (by decide +kernel) (Nat.le_of_ble_eq_true rfl) ?_
  intro p e s m below meth c X hr hlk hH hname ls hl
  replace hl : lv_has ls 2 [(0, .ref (sAd G i)), (1, .int (nI k))] := hl
  refine lv_aload_n X.x X.b (dk DJ0_charAt_5068e_0 0 rfl) rfl (lv_at hl 0 rfl) ?_
  refine mr_ci0 hH ⟨rfl, rfl⟩ (mr_runVO (As := []) (rest := []) X hH (c_J0_isLatin1_aae02 hi) (X.z.1 i hi).2.1 kM_J0_492 kI_J0_isLatin1_aae02 kS_J0_isLatin1_aae02 kN_J0 kC_J0_isLatin1_aae02 hd_J0_isLatin1_aae02 ⟨Nat.le_of_ble_eq_true rfl, Nat.le_of_ble_eq_true rfl⟩ rfl hl.1 (Nat.le_of_ble_eq_true rfl) (dk DJ0_charAt_5068e_0 1 rfl) ⟨Nat.zero_le _, Nat.zero_le _⟩) (fun r h1 H locs hp hH => ?_)
  rw [hp.1]; rw [hp.2] at hH
  refine lv_if_eq (tgt := 16) X.x X.b (dk DJ0_charAt_5068e_0 2 rfl) (by decide) (fun c1 => absurd c1 (by decide)) (fun c1 => ?_)
  refine lv_aload_n X.x X.b (dk DJ0_charAt_5068e_0 3 rfl) rfl (lv_at hl 0 rfl) ?_
  refine vk_getf X.x X.b (X.z.1 i hi).2.2.2.1 hH.2.1 X.ow (X.ts _ kF_J0_9) (fun _ q => q) (dk DJ0_charAt_5068e_0 4 rfl) ?_
  refine lv_iload_n X.x X.b (dk DJ0_charAt_5068e_0 5 rfl) rfl (lv_at hl 1 rfl) ?_
  refine mr_ci0 hH ⟨rfl, rfl⟩ (mr_runS (As := [.ref (sBd G i), .int (nI k)]) (rest := []) X hH (c_J1_charAt_3b067 hi hk) kM_J0_495 kT_J1_charAt_3b067 kN_J1 kC_J1_charAt_3b067 hd_J1_charAt_3b067 ⟨Nat.le_of_ble_eq_true rfl, Nat.le_of_ble_eq_true rfl⟩ rfl hl.1 (Nat.le_of_ble_eq_true rfl) (dk DJ0_charAt_5068e_0 6 rfl) ⟨Nat.zero_le _, Nat.zero_le _⟩) (fun r h1 H locs hp hH => ?_)
  rw [hp.1]; rw [hp.2] at hH
  exact mr_tret X hr hlk hH (pk_nc _) ⟨rfl, rfl⟩ (dk DJ0_charAt_5068e_0 7 rfl)
theorem c_charAt {l : Launch} {G : mG} {h : mM} {i : Nat} (hi : i < sTab.length) {k : Int32} (hin : vp_in k (sLen i)) : cQ l G yJ0_charAt_5068e cJ0_charAt_5068e 2 (some .char) rm_J0_charAt_5068e [.ref (sAd G i), .int k] h (mQi G (fun r h1 => r = sCh i k.toNatClampNeg ∧ h1 = h)) := by
  have hN := sLen_lt i hi
  obtain ⟨j, hj, rfl⟩ := vp_in_of hin (by omega)
  rw [nI_clamp (by omega)]
  exact c_J0_charAt_5068e hi hj
