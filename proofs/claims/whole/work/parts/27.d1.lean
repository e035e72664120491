/-! a row of objects: one of them is there, or made -/
def RowT (L : LY) (t n : Nat) (G : mG) (ow : Nat → Nat) (m : mM) (r : Nat) (f : Nat → Option Nat) : Prop := C1 ow m r (aQ G t n f) ∧ (∀ i a, f i = some a → ∃ q st, q L.2.1 = a ∧ At G ow m L q st) ∧ (∀ i j a, f i = some a → f j = some a → i = j)
section ROWT
variable {L : LY} {t n : Nat} {G : mG} {ow : Nat → Nat} {m : mM} {r : Nat} {f : Nat → Option Nat}
theorem RowT.frA {ow' : Nat → Nat} {m' : mM} {S : Nat → Prop} (h : RowT L t n G ow m r f) (hF : FrA G S ow m ow' m') (h1 : ¬ S r) (h2 : ∀ i a, f i = some a → ¬ S a) : RowT L t n G ow' m' r f :=
  ⟨hF.2.1 _ _ h1 h.1, fun i a hi => by
    obtain ⟨q, st, e, hA⟩ := h.2.1 i a hi
    exact ⟨q, st, e, hF.1 _ _ _ (by rw [e]; exact h2 i a hi) hA⟩, h.2.2⟩
theorem rs_old (hR : RowT L t n G ow m r f) {i : Nat} {q1 : Nat → Nat} {st1 : OS} (hfi : f i = some (q1 L.2.1)) (h2 : At G ow m L q1 st1) (x : OS) : RowT L t n G ow (oset L G q1 x m) r f ∧ At G ow (oset L G q1 x m) L q1 x ∧ Fr (fun z => z = r ∨ f i = some z) ow m ow (oset L G q1 x m) := by
  have hF := h2.fr (m := m) (x := x)
  refine ⟨⟨hF.c1 (fun z => h2.neC hR.1 z.symm) hR.1, fun j a hj => ?_, hR.2.2⟩, h2.self, hF.mono (fun a z => Or.inr (by rw [z]; exact hfi))⟩
  by_cases hj1 : a = q1 L.2.1
  · exact ⟨q1, x, hj1.symm, h2.self⟩
  · obtain ⟨q, st, e, hA⟩ := hR.2.1 j a hj
    exact ⟨q, st, e, hF.at (fun z => hj1 (by rw [← e, z])) hA⟩
theorem rs_new (hR : RowT L t n G ow m r f) {i : Nat} (hfi : f i = none) {q1 : Nat → Nat} (hi1 : oinj L q1) (hfn : ∀ k, k ≤ L.2.1 → ohas L k = true → m (q1 k) = none) (st0 x : OS) :
    RowT L t n G (ownN L q1 ow) (oset L G q1 x (va_up (oset L G q1 st0 m) r (some (aQ G t n (va_up f i (some (q1 L.2.1))))))) r (va_up f i (some (q1 L.2.1))) ∧ At G (ownN L q1 ow) (oset L G q1 x (va_up (oset L G q1 st0 m) r (some (aQ G t n (va_up f i (some (q1 L.2.1))))))) L q1 x ∧ Fr (fun z => z = r ∨ f i = some z) ow m (ownN L q1 ow) (oset L G q1 x (va_up (oset L G q1 st0 m) r (some (aQ G t n (va_up f i (some (q1 L.2.1))))))) := by
  have hN : At G (ownN L q1 ow) (oset L G q1 st0 m) L q1 st0 := At.new hi1
  have hFr : Fr (fun _ => False) ow m (ownN L q1 ow) (oset L G q1 st0 m) := Fr.new hfn
  have hC1 := hFr.c1 id hR.1
  have hN2 := hN.up (e' := aQ G t n (va_up f i (some (q1 L.2.1)))) hC1 (hN.neC hC1)
  have hF2 := hC1.fr (e' := aQ G t n (va_up f i (some (q1 L.2.1))))
  have hF3 := hN2.fr (m := va_up (oset L G q1 st0 m) r (some (aQ G t n (va_up f i (some (q1 L.2.1)))))) (x := x)
  have h0 : m (q1 L.2.1) = none := hfn _ (Nat.le_refl _) ohas_N
  have hF : Fr (fun z => z = r) ow m (ownN L q1 ow) (oset L G q1 x (va_up (oset L G q1 st0 m) r (some (aQ G t n (va_up f i (some (q1 L.2.1))))))) := ((hFr.mono (fun _ z => z.elim)).tr hF2).osetN hfn
  have hne : ∀ {q : Nat → Nat} {st : OS}, At G ow m L q st → q L.2.1 ≠ q1 L.2.1 := fun h z => by have := h.root; rw [z, h0] at this; cases this
  have hnr : q1 L.2.1 ≠ r := hN.neC hC1
  refine ⟨⟨hF3.c1 (fun z => hnr z.symm) hC1.self, fun j a hj => ?_, fun j k a hj hk => ?_⟩, hN2.self, hF.mono (fun _ z => Or.inl z)⟩
  · by_cases hji : j = i
    · subst hji
      simp only [va_up, if_pos] at hj
      cases hj
      exact ⟨q1, x, rfl, hN2.self⟩
    · have hj' : f j = some a := by simpa [va_up, hji] using hj
      obtain ⟨q, st, e, hA⟩ := hR.2.1 j a hj'
      exact ⟨q, st, e, hF.at (fun z => hA.neC hR.1 z) hA⟩
  · have hno : ∀ {j a}, f j = some a → a ≠ q1 L.2.1 := fun hj z => by
      obtain ⟨q, st, e, hA⟩ := hR.2.1 _ _ hj
      exact hne hA (by rw [e, z])
    by_cases hji : j = i <;> by_cases hki : k = i
    · rw [hji, hki]
    · exfalso
      subst hji
      simp only [va_up, if_pos] at hj
      cases hj
      exact hno (show f k = some _ by simpa [va_up, hki] using hk) rfl
    · exfalso
      subst hki
      simp only [va_up, if_pos] at hk
      cases hk
      exact hno (show f j = some _ by simpa [va_up, hji] using hj) rfl
    · exact hR.2.2 j k a (by simpa [va_up, hji] using hj) (by simpa [va_up, hki] using hk)
end ROWT
theorem dfl_X7 : ∀ j, j < 3 → defaultValue (tyX7 j) = vp_V (dflt LX7) j := by
  intro j hj
  rcases j with _ | _ | _ | j
  · rfl
  · rfl
  · rfl
  · omega
theorem hd_X11_image : mHd yX11_image 1 := ⟨by decide +kernel, by decide +kernel, by decide +kernel⟩
theorem DX11_image_0 : ∀ t ∈ ([(0, .iload_n 1, 1), (1, .ifCond .lt 8, 3), (4, .iload_n 1, 1), (5, .iconst 3, 1), (6, .if_icmp .lt 14, 3), (9, .new 291, 3), (12, .dup, 1), (13, .ldc_w 320, 3), (16, .invokespecial 295, 3), (19, .athrow, 1), (20, .aload_n 0, 1), (21, .getfield 33, 3), (24, .iload_n 1, 1), (25, .aaload, 1), (26, .astore_n 2, 1), (27, .aload_n 2, 1), (28, .ifnonnull 18, 3), (31, .new 16, 3), (34, .dup, 1), (35, .invokespecial 18, 3), (38, .astore_n 2, 1), (39, .aload_n 0, 1), (40, .getfield 33, 3), (43, .iload_n 1, 1), (44, .aload_n 2, 1), (45, .aastore, 1), (46, .aload_n 2, 1), (47, .aload_n 0, 1), (48, .getfield 19, 3), (51, .invokevirtual 97, 3), (54, .return_, 1)] : List (Nat × Instr × Nat)), decode cX11_image t.1 = .ok (t.2.1, t.2.2) := by decide +kernel
theorem hd_X11_tray : mHd yX11_tray 3 := ⟨by decide +kernel, by decide +kernel, by decide +kernel⟩
theorem DX11_tray_0 : ∀ t ∈ ([(0, .iload_n 1, 1), (1, .ifCond .lt 8, 3), (4, .iload_n 1, 1), (5, .iconst 4, 1), (6, .if_icmp .lt 14, 3), (9, .new 291, 3), (12, .dup, 1), (13, .ldc_w 293, 3), (16, .invokespecial 295, 3), (19, .athrow, 1), (20, .iload_n 2, 1), (21, .ifCond .lt 18, 3), (24, .iload_n 2, 1), (25, .iconst 3, 1), (26, .if_icmp .gt 13, 3), (29, .iload_n 3, 1), (30, .ifCond .lt 9, 3), (33, .iload_n 3, 1), (34, .bipush 40, 2), (36, .if_icmp .le 14, 3), (39, .new 83, 3), (42, .dup, 1), (43, .ldc_w 296, 3), (46, .invokespecial 87, 3), (49, .athrow, 1), (50, .aload_n 0, 1), (51, .getfield 39, 3), (54, .iload_n 1, 1), (55, .aaload, 1), (56, .astore 4, 2), (58, .aload 4, 2), (60, .ifnonnull 20, 3), (63, .new 37, 3), (66, .dup, 1), (67, .invokespecial 298, 3), (70, .astore 4, 2), (72, .aload_n 0, 1), (73, .getfield 39, 3), (76, .iload_n 1, 1), (77, .aload 4, 2), (79, .aastore, 1), (80, .aload 4, 2), (82, .iload_n 2, 1), (83, .iload_n 3, 1), (84, .invokevirtual 299, 3), (87, .return_, 1)] : List (Nat × Instr × Nat)), decode cX11_tray t.1 = .ok (t.2.1, t.2.2) := by decide +kernel
abbrev rm_X11_image : Room := { frames := 6, cells := 5, slots := 203, locals := 90 }
set_option maxHeartbeats 4000000 in
set_option maxRecDepth 100000 in
theorem c_X11_image {l : Launch} (hst : l.stackTraces = false) {G : mG} {ow : Nat → Nat} {m : mM} {qt qn : Nat → Nat} {stt stn : OS} (hT : At G ow m LX11 qt stt) (hn : At G ow m LX10 qn stn) (hk1 : qt 1 = qn 5) {xi : Nat} (hk4 : qt 4 = xi) {fi : Nat → Option Nat} (hR : RowT LX10 4 3 G ow m xi fi) (hni : ∀ j, fi j ≠ some (qn 5)) {i : Int32} : xQ l G yX11_image cX11_image 3 none rm_X11_image [.ref (qt 10), .int i] (m) (mQv G (fun m' => ∃ j ow1 fi1, i = nI j ∧ j < 3 ∧ RowT LX10 4 3 G ow1 m' xi fi1 ∧ (∀ k, k ≠ j → fi1 k = fi k) ∧ (∃ q st, fi1 j = some (q 5) ∧ At G ow1 m' LX10 q st ∧ sameW st stn) ∧ FrA G (fun z => z = xi ∨ fi j = some z) ow m ow1 m' ∧ (∀ a, fi1 j = some a → fi j = some a ∨ m a = none))) (fun E m' => E = exN 0 ∧ (i < 0 ∨ ¬ i < 3) ∧ m' = m) := by
  refine xp_of (by decide +kernel) (Nat.le_of_ble_eq_true rfl) ?_
  intro p e s m9 below meth c X hr hlk hno hH ls hl
  replace hl : lv_has ls 3 [(0, .ref (qt 10)), (1, .int i)] := hl
  refine lv_iload_n X.x X.b (dk DX11_image_0 0 rfl) rfl (lv_at hl 1 rfl) ?_
  refine lv_if_lt (tgt := 9) X.x X.b (dk DX11_image_0 1 rfl) (by decide) (fun c => ?_) (fun c => ?_)
  · exact mr_throwN X hno hlk hl.1 hst hH 14 (by decide +kernel) (by decide +kernel) (by decide +kernel) nsT_X11_295 kL_X11_291 kN_ex0 (dk DX11_image_0 5 rfl) (dk DX11_image_0 6 rfl) (dk DX11_image_0 7 rfl) (dk DX11_image_0 8 rfl) (dk DX11_image_0 9 rfl) ⟨Nat.le_of_ble_eq_true rfl, Nat.le_of_ble_eq_true rfl, Nat.le_of_ble_eq_true rfl, Nat.le_of_ble_eq_true rfl⟩ (Nat.le_of_ble_eq_true rfl) (Nat.le_of_ble_eq_true rfl) ⟨rfl, Or.inl c, rfl⟩
  · refine lv_iload_n X.x X.b (dk DX11_image_0 2 rfl) rfl (lv_at hl 1 rfl) ?_
    refine lv_iconst (v := 3) X.x X.b (dk DX11_image_0 3 rfl) (by decide) ?_
    refine lv_icmp_lt (tgt := 20) X.x X.b (dk DX11_image_0 4 rfl) (by decide) (fun c2 => ?_) (fun c2 => ?_)
    · obtain ⟨j, hj, hij⟩ : ∃ j, j < 3 ∧ i = nI j := by
        obtain ⟨j, hj, hij⟩ := nI_of c
        refine ⟨j, ?_, hij⟩
        rw [hij] at c2
        rcases Nat.lt_or_ge j 3 with h | h
        · exact h
        · exact absurd c2 (nI_nlt (a := j) (b := 3) h hj)
      subst hij
      refine lv_aload_n X.x X.b (dk DX11_image_0 10 rfl) rfl (lv_at hl 0 rfl) ?_
      refine ag_getR (t := 4) OX11 X hT hH 4 (by decide) rfl kF_X11_33 (dk DX11_image_0 11 rfl) ?_
      rw [hk4]
      refine lv_iload_n X.x X.b (dk DX11_image_0 12 rfl) rfl (lv_at hl 1 rfl) ?_
      refine mr_aald (t := 4) X hH rfl hR.1.1 (vp_in_nI hj (by decide)) (dk DX11_image_0 13 rfl) ?_
      rw [nI_clamp (by omega)]
      cases hfj : fi j with
      | none =>
        refine lv_astore_nN (lv' := [(2, .null), (0, .ref (qt 10)), (1, .int (nI j))]) X.x X.b (dk DX11_image_0 14 rfl) rfl hl (by decide) rfl (fun ls hl => ?_)
        replace hl : lv_has ls 3 [(0, .ref (qt 10)), (1, .int (nI j)), (2, .null)] := lv_sub hl [1, 2, 0] rfl
        refine lv_aload_nN X.x X.b (dk DX11_image_0 15 rfl) rfl (lv_at hl 2 rfl) ?_
        refine lv_ifnonnullN X.x X.b (dk DX11_image_0 16 rfl) ?_
        refine mr_mk (L := LX10) (st := stX10) (S := (fun es _ => es = [])) (fun _ _ _ z => newP.simple z) X hH hinX10 tyX10_ok rfl kL_X11_16 kB_X10 kN_X10 dfl_X10 (fun x9 h9 hx9 => c_X10_init hx9) kMN_X11_18 kI_X10_init kN_X10 kC_X10_init rfl hd_X10_init ⟨Nat.le_of_ble_eq_true rfl, Nat.le_of_ble_eq_true rfl⟩ hl.1 (Nat.le_of_ble_eq_true rfl) (Nat.le_of_ble_eq_true rfl) (Nat.le_of_ble_eq_true rfl) ⟨Nat.le_of_ble_eq_true rfl, Nat.le_of_ble_eq_true rfl⟩ (dk DX11_image_0 17 rfl) (dk DX11_image_0 18 rfl) (dk DX11_image_0 19 rfl) (fun q1 es H locs hS hi1 hf1 hH => ?_)
        have hS : es = [] := hS
        subst hS
        have hfn : ∀ k, k ≤ LX10.2.1 → ohas LX10 k = true → m (q1 k) = none := fun k hk hh => hf1.2 (q1 k) ⟨k, hk, hh, rfl⟩
        replace hH : mH G (oset LX10 G q1 stX10 m) s.heap H locs := hH
        have hN : At G (ownN LX10 q1 ow) (oset LX10 G q1 stX10 m) LX10 q1 stX10 := At.new hi1
        have hFr : Fr (fun _ => False) ow m (ownN LX10 q1 ow) (oset LX10 G q1 stX10 m) := Fr.new hfn
        have hC1 := hFr.c1 id hR.1
        have hT1 := hFr.at id hT
        have hQ1 := hFr.at id hn
        refine lv_astore_n (lv' := [(2, .ref (q1 5)), (0, .ref (qt 10)), (1, .int (nI j))]) X.x X.b (dk DX11_image_0 20 rfl) rfl hl (by decide) rfl (fun ls hl => ?_)
        replace hl : lv_has ls 3 [(0, .ref (qt 10)), (1, .int (nI j)), (2, .ref (q1 5))] := lv_sub hl [1, 2, 0] rfl
        refine lv_aload_n X.x X.b (dk DX11_image_0 21 rfl) rfl (lv_at hl 0 rfl) ?_
        refine ag_getR (t := 4) OX11 X hT1 hH 4 (by decide) rfl kF_X11_33 (dk DX11_image_0 22 rfl) ?_
        rw [hk4]
        refine lv_iload_n X.x X.b (dk DX11_image_0 23 rfl) rfl (lv_at hl 1 rfl) ?_
        refine lv_aload_n X.x X.b (dk DX11_image_0 24 rfl) rfl (lv_at hl 2 rfl) ?_
        refine mr_aast (t := 4) X hH rfl hC1.1 hN.root OX10.1 (vp_in_nI hj (by decide)) (dk DX11_image_0 25 rfl) (fun H locs hH => ?_)
        rw [nI_clamp (by omega)] at hH
        have hN2 := hN.up (e' := aQ G 4 3 (va_up fi j (some (q1 5)))) hC1 (hN.neC hC1)
        have hQ2 := hQ1.up (e' := aQ G 4 3 (va_up fi j (some (q1 5)))) hC1 (hQ1.neC hC1)
        have hT2 := hT1.up (e' := aQ G 4 3 (va_up fi j (some (q1 5)))) hC1 (hT1.neC hC1)
        have hne : q1 5 ≠ qn 5 := fun z => by
          have h8 := hfn 5 (Nat.le_refl _) ohas_N
          rw [z] at h8
          have h9 := hn.root
          rw [show qn LX10.2.1 = qn 5 from rfl, h8] at h9
          cases h9
        refine lv_aload_n X.x X.b (dk DX11_image_0 26 rfl) rfl (lv_at hl 2 rfl) ?_
        refine lv_aload_n X.x X.b (dk DX11_image_0 27 rfl) rfl (lv_at hl 0 rfl) ?_
        refine ag_getR (t := 4) OX11 X hT2 hH 1 (by decide) rfl kF_X11_19 (dk DX11_image_0 28 rfl) ?_
        rw [hk1]
        obtain ⟨x, hx, hcp⟩ := c_copyA (l := l) hN2 hQ2 hne
        refine mr_cv hH (mr_runV (As := [.ref (qn 5)]) (rest := []) X hH hcp hN2.root OX10.1 kM_X11_97 kI_X10_copy kS_X10_copy kN_X10 kC_X10_copy hd_X10_copy ⟨Nat.le_of_ble_eq_true rfl, Nat.le_of_ble_eq_true rfl⟩ rfl hl.1 (Nat.le_of_ble_eq_true rfl) (dk DX11_image_0 29 rfl) ⟨Nat.le_of_ble_eq_true rfl, Nat.le_of_ble_eq_true rfl⟩) (fun h1 H locs hp hH => ?_)
        obtain ⟨r1, r2, r3⟩ := rs_new hR hfj hi1 hfn stX10 x
        rw [hp] at hH
        exact vx_ret (W.widen (k := 5) (n := 203) (Nat.le_of_ble_eq_true rfl) (Nat.le_of_ble_eq_true rfl) (mr_vret X hr hlk hH ⟨j, _, _, rfl, hj, r1, fun k hk => by simp [va_up, hk], ⟨q1, x, by simp [va_up]; rfl, r2, hx⟩, r3.A, fun a ha => Or.inr (by simp [va_up] at ha; rw [← ha]; exact hfn _ (Nat.le_refl _) ohas_N)⟩ (dk DX11_image_0 30 rfl)))
      | some a =>
        obtain ⟨q1, st1, hq1, hA1⟩ := hR.2.1 _ _ hfj
        subst hq1
        refine lv_astore_n (lv' := [(2, .ref (q1 LX10.2.1)), (0, .ref (qt 10)), (1, .int (nI j))]) X.x X.b (dk DX11_image_0 14 rfl) rfl hl (by decide) rfl (fun ls hl => ?_)
        replace hl : lv_has ls 3 [(0, .ref (qt 10)), (1, .int (nI j)), (2, .ref (q1 LX10.2.1))] := lv_sub hl [1, 2, 0] rfl
        refine lv_aload_n X.x X.b (dk DX11_image_0 15 rfl) rfl (lv_at hl 2 rfl) ?_
        refine lv_ifnonnull (tgt := 46) X.x X.b (dk DX11_image_0 16 rfl) (by decide) ?_
        refine lv_aload_n X.x X.b (dk DX11_image_0 26 rfl) rfl (lv_at hl 2 rfl) ?_
        refine lv_aload_n X.x X.b (dk DX11_image_0 27 rfl) rfl (lv_at hl 0 rfl) ?_
        refine ag_getR (t := 4) OX11 X hT hH 1 (by decide) rfl kF_X11_19 (dk DX11_image_0 28 rfl) ?_
        rw [hk1]
        obtain ⟨x, hx, hcp⟩ := c_copyA (l := l) hA1 hn (fun z => hni j (by rw [hfj, ← z]; rfl))
        refine mr_cv hH (mr_runV (As := [.ref (qn 5)]) (rest := []) X hH hcp hA1.root OX10.1 kM_X11_97 kI_X10_copy kS_X10_copy kN_X10 kC_X10_copy hd_X10_copy ⟨Nat.le_of_ble_eq_true rfl, Nat.le_of_ble_eq_true rfl⟩ rfl hl.1 (Nat.le_of_ble_eq_true rfl) (dk DX11_image_0 29 rfl) ⟨Nat.le_of_ble_eq_true rfl, Nat.le_of_ble_eq_true rfl⟩) (fun h1 H locs hp hH => ?_)
        obtain ⟨r1, r2, r3⟩ := rs_old hR hfj hA1 x
        rw [hp] at hH
        exact vx_ret (W.widen (k := 5) (n := 203) (Nat.le_of_ble_eq_true rfl) (Nat.le_of_ble_eq_true rfl) (mr_vret X hr hlk hH ⟨j, _, _, rfl, hj, r1, fun _ _ => rfl, ⟨q1, x, hfj, r2, hx⟩, r3.A, fun a ha => Or.inl ha⟩ (dk DX11_image_0 30 rfl)))
    · exact mr_throwN X hno hlk hl.1 hst hH 14 (by decide +kernel) (by decide +kernel) (by decide +kernel) nsT_X11_295 kL_X11_291 kN_ex0 (dk DX11_image_0 5 rfl) (dk DX11_image_0 6 rfl) (dk DX11_image_0 7 rfl) (dk DX11_image_0 8 rfl) (dk DX11_image_0 9 rfl) ⟨Nat.le_of_ble_eq_true rfl, Nat.le_of_ble_eq_true rfl, Nat.le_of_ble_eq_true rfl, Nat.le_of_ble_eq_true rfl⟩ (Nat.le_of_ble_eq_true rfl) (Nat.le_of_ble_eq_true rfl) ⟨rfl, Or.inr c2, rfl⟩
abbrev rm_X11_tray : Room := { frames := 6, cells := 5, slots := 203, locals := 90 }
set_option maxHeartbeats 4000000 in
set_option maxRecDepth 100000 in
theorem c_X11_tray {l : Launch} (hst : l.stackTraces = false) {G : mG} {ow : Nat → Nat} {m : mM} {qt : Nat → Nat} {stt : OS} (hT : At G ow m LX11 qt stt) {xt : Nat} (hk5 : qt 5 = xt) {ft : Nat → Option Nat} (hR : RowT LX7 5 4 G ow m xt ft) {i so n : Int32} (hF : ∀ st, ∃ x, f_X7_becomeEmpty st so n = some x) : xQ l G yX11_tray cX11_tray 5 none rm_X11_tray [.ref (qt 10), .int i, .int so, .int n] (m) (mQv G (fun m' => ∃ j ow1 ft1, i = nI j ∧ j < 4 ∧ ¬ so < 0 ∧ ¬ 3 < so ∧ ¬ n < 0 ∧ n ≤ 40 ∧ RowT LX7 5 4 G ow1 m' xt ft1 ∧ (∀ k, k ≠ j → ft1 k = ft k) ∧ (∃ q st x, ft1 j = some (q 3) ∧ f_X7_becomeEmpty st so n = some x ∧ At G ow1 m' LX7 q x) ∧ FrA G (fun z => z = xt ∨ ft j = some z) ow m ow1 m' ∧ (∀ a, ft1 j = some a → ft j = some a ∨ m a = none))) (fun E m' => ((E = exN 0 ∧ (i < 0 ∨ ¬ i < 4)) ∨ (E = exN 1 ∧ ¬ i < 0 ∧ i < 4 ∧ (so < 0 ∨ 3 < so ∨ n < 0 ∨ ¬ n ≤ 40))) ∧ m' = m) := by
  refine xp_of (by decide +kernel) (Nat.le_of_ble_eq_true rfl) ?_
  intro p e s m9 below meth c X hr hlk hno hH ls hl
  replace hl : lv_has ls 5 [(0, .ref (qt 10)), (1, .int i), (2, .int so), (3, .int n)] := hl
  refine lv_iload_n X.x X.b (dk DX11_tray_0 0 rfl) rfl (lv_at hl 1 rfl) ?_
  refine lv_if_lt (tgt := 9) X.x X.b (dk DX11_tray_0 1 rfl) (by decide) (fun c => ?_) (fun c => ?_)
  · exact mr_throwN X hno hlk hl.1 hst hH 17 (by decide +kernel) (by decide +kernel) (by decide +kernel) nsT_X11_295 kL_X11_291 kN_ex0 (dk DX11_tray_0 5 rfl) (dk DX11_tray_0 6 rfl) (dk DX11_tray_0 7 rfl) (dk DX11_tray_0 8 rfl) (dk DX11_tray_0 9 rfl) ⟨Nat.le_of_ble_eq_true rfl, Nat.le_of_ble_eq_true rfl, Nat.le_of_ble_eq_true rfl, Nat.le_of_ble_eq_true rfl⟩ (Nat.le_of_ble_eq_true rfl) (Nat.le_of_ble_eq_true rfl) ⟨Or.inl ⟨rfl, Or.inl c⟩, rfl⟩
  · refine lv_iload_n X.x X.b (dk DX11_tray_0 2 rfl) rfl (lv_at hl 1 rfl) ?_
    refine lv_iconst (v := 4) X.x X.b (dk DX11_tray_0 3 rfl) (by decide) ?_
    refine lv_icmp_lt (tgt := 20) X.x X.b (dk DX11_tray_0 4 rfl) (by decide) (fun c2 => ?_) (fun c2 => ?_)
    · refine lv_iload_n X.x X.b (dk DX11_tray_0 10 rfl) rfl (lv_at hl 2 rfl) ?_
      refine lv_if_lt (tgt := 39) X.x X.b (dk DX11_tray_0 11 rfl) (by decide) (fun c3 => ?_) (fun c3 => ?_)
      · exact mr_throwSW X hno hlk hl.1 hst hH 1 19 (by decide +kernel) (by decide +kernel) (by decide +kernel) exT_X11_87 kL_X11_83 kN_ex1 (dk DX11_tray_0 20 rfl) (dk DX11_tray_0 21 rfl) (dk DX11_tray_0 22 rfl) (dk DX11_tray_0 23 rfl) (dk DX11_tray_0 24 rfl) ⟨Nat.le_of_ble_eq_true rfl, Nat.le_of_ble_eq_true rfl, Nat.le_of_ble_eq_true rfl, Nat.le_of_ble_eq_true rfl⟩ (Nat.le_of_ble_eq_true rfl) (Nat.le_of_ble_eq_true rfl) ⟨Or.inr ⟨rfl, c, c2, Or.inl c3⟩, rfl⟩
      · refine lv_iload_n X.x X.b (dk DX11_tray_0 12 rfl) rfl (lv_at hl 2 rfl) ?_
        refine lv_iconst (v := 3) X.x X.b (dk DX11_tray_0 13 rfl) (by decide) ?_
        refine lv_icmp_gt (tgt := 39) X.x X.b (dk DX11_tray_0 14 rfl) (by decide) (fun c4 => ?_) (fun c4 => ?_)
        · exact mr_throwSW X hno hlk hl.1 hst hH 1 19 (by decide +kernel) (by decide +kernel) (by decide +kernel) exT_X11_87 kL_X11_83 kN_ex1 (dk DX11_tray_0 20 rfl) (dk DX11_tray_0 21 rfl) (dk DX11_tray_0 22 rfl) (dk DX11_tray_0 23 rfl) (dk DX11_tray_0 24 rfl) ⟨Nat.le_of_ble_eq_true rfl, Nat.le_of_ble_eq_true rfl, Nat.le_of_ble_eq_true rfl, Nat.le_of_ble_eq_true rfl⟩ (Nat.le_of_ble_eq_true rfl) (Nat.le_of_ble_eq_true rfl) ⟨Or.inr ⟨rfl, c, c2, Or.inr (Or.inl c4)⟩, rfl⟩
        · refine lv_iload_n X.x X.b (dk DX11_tray_0 15 rfl) rfl (lv_at hl 3 rfl) ?_
          refine lv_if_lt (tgt := 39) X.x X.b (dk DX11_tray_0 16 rfl) (by decide) (fun c5 => ?_) (fun c5 => ?_)
          · exact mr_throwSW X hno hlk hl.1 hst hH 1 19 (by decide +kernel) (by decide +kernel) (by decide +kernel) exT_X11_87 kL_X11_83 kN_ex1 (dk DX11_tray_0 20 rfl) (dk DX11_tray_0 21 rfl) (dk DX11_tray_0 22 rfl) (dk DX11_tray_0 23 rfl) (dk DX11_tray_0 24 rfl) ⟨Nat.le_of_ble_eq_true rfl, Nat.le_of_ble_eq_true rfl, Nat.le_of_ble_eq_true rfl, Nat.le_of_ble_eq_true rfl⟩ (Nat.le_of_ble_eq_true rfl) (Nat.le_of_ble_eq_true rfl) ⟨Or.inr ⟨rfl, c, c2, Or.inr (Or.inr (Or.inl c5))⟩, rfl⟩
          · refine lv_iload_n X.x X.b (dk DX11_tray_0 17 rfl) rfl (lv_at hl 3 rfl) ?_
            refine lv_bipush (v := 40) X.x X.b (dk DX11_tray_0 18 rfl) (by decide) ?_
            refine lv_icmp_le (tgt := 50) X.x X.b (dk DX11_tray_0 19 rfl) (by decide) (fun c6 => ?_) (fun c6 => ?_)
            · obtain ⟨j, hj, hij⟩ : ∃ j, j < 4 ∧ i = nI j := by
                obtain ⟨j, hj, hij⟩ := nI_of c
                refine ⟨j, ?_, hij⟩
                rw [hij] at c2
                rcases Nat.lt_or_ge j 4 with h | h
                · exact h
                · exact absurd c2 (nI_nlt (a := j) (b := 4) h hj)
              subst hij
              refine lv_aload_n X.x X.b (dk DX11_tray_0 25 rfl) rfl (lv_at hl 0 rfl) ?_
              refine ag_getR (t := 4) OX11 X hT hH 5 (by decide) rfl kF_X11_39 (dk DX11_tray_0 26 rfl) ?_
              rw [hk5]
              refine lv_iload_n X.x X.b (dk DX11_tray_0 27 rfl) rfl (lv_at hl 1 rfl) ?_
              refine mr_aald (t := 5) X hH rfl hR.1.1 (vp_in_nI hj (by decide)) (dk DX11_tray_0 28 rfl) ?_
              rw [nI_clamp (by omega)]
              cases hfj : ft j with
              | none =>
                refine lv_astoreN (lv' := [(4, .null), (0, .ref (qt 10)), (1, .int (nI j)), (2, .int so), (3, .int n)]) X.x X.b (dk DX11_tray_0 29 rfl) hl (by decide) rfl (fun ls hl => ?_)
                replace hl : lv_has ls 5 [(0, .ref (qt 10)), (1, .int (nI j)), (2, .int so), (3, .int n), (4, .null)] := lv_sub hl [1, 2, 3, 4, 0] rfl
                refine lv_aloadN X.x X.b (dk DX11_tray_0 30 rfl) (lv_at hl 4 rfl) ?_
                refine lv_ifnonnullN X.x X.b (dk DX11_tray_0 31 rfl) ?_
                refine mr_mk (L := LX7) (st := stX7) (S := (fun es _ => es = [])) (fun _ _ _ z => newP.simple z) X hH hinX7 tyX7_ok rfl kL_X11_37 kB_X7 kN_X7 dfl_X7 (fun x9 h9 hx9 => c_X7_init hx9) kMN_X11_298 kI_X7_init kN_X7 kC_X7_init rfl hd_X7_init ⟨Nat.le_of_ble_eq_true rfl, Nat.le_of_ble_eq_true rfl⟩ hl.1 (Nat.le_of_ble_eq_true rfl) (Nat.le_of_ble_eq_true rfl) (Nat.le_of_ble_eq_true rfl) ⟨Nat.le_of_ble_eq_true rfl, Nat.le_of_ble_eq_true rfl⟩ (dk DX11_tray_0 32 rfl) (dk DX11_tray_0 33 rfl) (dk DX11_tray_0 34 rfl) (fun q1 es H locs hS hi1 hf1 hH => ?_)
                have hS : es = [] := hS
                subst hS
                have hfn : ∀ k, k ≤ LX7.2.1 → ohas LX7 k = true → m (q1 k) = none := fun k hk hh => hf1.2 (q1 k) ⟨k, hk, hh, rfl⟩
                replace hH : mH G (oset LX7 G q1 stX7 m) s.heap H locs := hH
                have hN : At G (ownN LX7 q1 ow) (oset LX7 G q1 stX7 m) LX7 q1 stX7 := At.new hi1
                have hFr : Fr (fun _ => False) ow m (ownN LX7 q1 ow) (oset LX7 G q1 stX7 m) := Fr.new hfn
                have hC1 := hFr.c1 id hR.1
                have hT1 := hFr.at id hT
                refine lv_astore (lv' := [(4, .ref (q1 3)), (0, .ref (qt 10)), (1, .int (nI j)), (2, .int so), (3, .int n)]) X.x X.b (dk DX11_tray_0 35 rfl) hl (by decide) rfl (fun ls hl => ?_)
                replace hl : lv_has ls 5 [(0, .ref (qt 10)), (1, .int (nI j)), (2, .int so), (3, .int n), (4, .ref (q1 3))] := lv_sub hl [1, 2, 3, 4, 0] rfl
                refine lv_aload_n X.x X.b (dk DX11_tray_0 36 rfl) rfl (lv_at hl 0 rfl) ?_
                refine ag_getR (t := 4) OX11 X hT1 hH 5 (by decide) rfl kF_X11_39 (dk DX11_tray_0 37 rfl) ?_
                rw [hk5]
                refine lv_iload_n X.x X.b (dk DX11_tray_0 38 rfl) rfl (lv_at hl 1 rfl) ?_
                refine lv_aload X.x X.b (dk DX11_tray_0 39 rfl) (lv_at hl 4 rfl) ?_
                refine mr_aast (t := 5) X hH rfl hC1.1 hN.root OX7.1 (vp_in_nI hj (by decide)) (dk DX11_tray_0 40 rfl) (fun H locs hH => ?_)
                rw [nI_clamp (by omega)] at hH
                have hN2 := hN.up (e' := aQ G 5 4 (va_up ft j (some (q1 3)))) hC1 (hN.neC hC1)
                refine lv_aload X.x X.b (dk DX11_tray_0 41 rfl) (lv_at hl 4 rfl) ?_
                refine lv_iload_n X.x X.b (dk DX11_tray_0 42 rfl) rfl (lv_at hl 2 rfl) ?_
                refine lv_iload_n X.x X.b (dk DX11_tray_0 43 rfl) rfl (lv_at hl 3 rfl) ?_
                obtain ⟨x, hx⟩ := hF stX7
                refine mr_cv hH (mr_runV (As := [.int so, .int n]) (rest := []) X hH (at1 hN2 (c_X7_becomeEmpty hN2.1 hx)) hN2.root OX7.1 kM_X11_299 kI_X7_becomeEmpty kS_X7_becomeEmpty kN_X7 kC_X7_becomeEmpty hd_X7_becomeEmpty ⟨Nat.le_of_ble_eq_true rfl, Nat.le_of_ble_eq_true rfl⟩ rfl hl.1 (Nat.le_of_ble_eq_true rfl) (dk DX11_tray_0 44 rfl) ⟨Nat.le_of_ble_eq_true rfl, Nat.le_of_ble_eq_true rfl⟩) (fun h1 H locs hp hH => ?_)
                obtain ⟨r1, r2, r3⟩ := rs_new hR hfj hi1 hfn stX7 x
                rw [hp] at hH
                exact vx_ret (W.widen (k := 5) (n := 203) (Nat.le_of_ble_eq_true rfl) (Nat.le_of_ble_eq_true rfl) (mr_vret X hr hlk hH ⟨j, _, _, rfl, hj, c3, c4, c5, c6, r1, fun k hk => by simp [va_up, hk], ⟨q1, stX7, x, by simp [va_up]; rfl, hx, r2⟩, r3.A, fun a ha => Or.inr (by simp [va_up] at ha; rw [← ha]; exact hfn _ (Nat.le_refl _) ohas_N)⟩ (dk DX11_tray_0 45 rfl)))
              | some a =>
                obtain ⟨q1, st1, hq1, hA1⟩ := hR.2.1 _ _ hfj
                subst hq1
                refine lv_astore (lv' := [(4, .ref (q1 LX7.2.1)), (0, .ref (qt 10)), (1, .int (nI j)), (2, .int so), (3, .int n)]) X.x X.b (dk DX11_tray_0 29 rfl) hl (by decide) rfl (fun ls hl => ?_)
                replace hl : lv_has ls 5 [(0, .ref (qt 10)), (1, .int (nI j)), (2, .int so), (3, .int n), (4, .ref (q1 LX7.2.1))] := lv_sub hl [1, 2, 3, 4, 0] rfl
                refine lv_aload X.x X.b (dk DX11_tray_0 30 rfl) (lv_at hl 4 rfl) ?_
                refine lv_ifnonnull (tgt := 80) X.x X.b (dk DX11_tray_0 31 rfl) (by decide) ?_
                refine lv_aload X.x X.b (dk DX11_tray_0 41 rfl) (lv_at hl 4 rfl) ?_
                refine lv_iload_n X.x X.b (dk DX11_tray_0 42 rfl) rfl (lv_at hl 2 rfl) ?_
                refine lv_iload_n X.x X.b (dk DX11_tray_0 43 rfl) rfl (lv_at hl 3 rfl) ?_
                obtain ⟨x, hx⟩ := hF st1
                refine mr_cv hH (mr_runV (As := [.int so, .int n]) (rest := []) X hH (at1 hA1 (c_X7_becomeEmpty hA1.1 hx)) hA1.root OX7.1 kM_X11_299 kI_X7_becomeEmpty kS_X7_becomeEmpty kN_X7 kC_X7_becomeEmpty hd_X7_becomeEmpty ⟨Nat.le_of_ble_eq_true rfl, Nat.le_of_ble_eq_true rfl⟩ rfl hl.1 (Nat.le_of_ble_eq_true rfl) (dk DX11_tray_0 44 rfl) ⟨Nat.le_of_ble_eq_true rfl, Nat.le_of_ble_eq_true rfl⟩) (fun h1 H locs hp hH => ?_)
                obtain ⟨r1, r2, r3⟩ := rs_old hR hfj hA1 x
                rw [hp] at hH
                exact vx_ret (W.widen (k := 5) (n := 203) (Nat.le_of_ble_eq_true rfl) (Nat.le_of_ble_eq_true rfl) (mr_vret X hr hlk hH ⟨j, _, _, rfl, hj, c3, c4, c5, c6, r1, fun _ _ => rfl, ⟨q1, st1, x, hfj, hx, r2⟩, r3.A, fun a ha => Or.inl ha⟩ (dk DX11_tray_0 45 rfl)))
            · exact mr_throwSW X hno hlk hl.1 hst hH 1 19 (by decide +kernel) (by decide +kernel) (by decide +kernel) exT_X11_87 kL_X11_83 kN_ex1 (dk DX11_tray_0 20 rfl) (dk DX11_tray_0 21 rfl) (dk DX11_tray_0 22 rfl) (dk DX11_tray_0 23 rfl) (dk DX11_tray_0 24 rfl) ⟨Nat.le_of_ble_eq_true rfl, Nat.le_of_ble_eq_true rfl, Nat.le_of_ble_eq_true rfl, Nat.le_of_ble_eq_true rfl⟩ (Nat.le_of_ble_eq_true rfl) (Nat.le_of_ble_eq_true rfl) ⟨Or.inr ⟨rfl, c, c2, Or.inr (Or.inr (Or.inr c6))⟩, rfl⟩
    · exact mr_throwN X hno hlk hl.1 hst hH 17 (by decide +kernel) (by decide +kernel) (by decide +kernel) nsT_X11_295 kL_X11_291 kN_ex0 (dk DX11_tray_0 5 rfl) (dk DX11_tray_0 6 rfl) (dk DX11_tray_0 7 rfl) (dk DX11_tray_0 8 rfl) (dk DX11_tray_0 9 rfl) ⟨Nat.le_of_ble_eq_true rfl, Nat.le_of_ble_eq_true rfl, Nat.le_of_ble_eq_true rfl, Nat.le_of_ble_eq_true rfl⟩ (Nat.le_of_ble_eq_true rfl) (Nat.le_of_ble_eq_true rfl) ⟨Or.inl ⟨rfl, Or.inr c2⟩, rfl⟩
