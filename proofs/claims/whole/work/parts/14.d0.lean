/-! rows for objects in a memory -/
section AG
variable {p : Program} {l : Launch} {e : Env} {R : Room} {s : State} {m : MethodId} {args : Array Value} {below : List Frame} {meth : Method} {c : Code} {H : Heap} {locs : List Loc} {cells slots : Nat} {Q : State → Prop}
variable {cc : ByteArray} {nL pc idx : Nat} {ls : Array Slot} {rest : List Value} {G : mG} {h : mM} {own : String} {a : Nat} {H0 : Heap} {L : LY} {q : Nat → Nat} {st : OS} {C : String} {T : u_T} {ty : Nat → FieldType} {ow : Nat → Nat}
theorem At.mH (hA : At G ow h L q st) (hH : mH G h H0 H locs) : mH G (oset L G q st h) H0 H locs := by rw [hA.eq]; exact hH
theorem ag_getI (O : oOK L C T ty) (X : mX G p m c cc nL s args own) (hA : At G ow h L q st) (hH : mH G h H0 H locs) (k : Nat) (hk : k < L.2.1) (hs : (L.2.2 k).1 = 0) (hlink : Cond.fieldLink own idx (T k).1 (T k).2.1 (T k).2.2.1 ∈ GW) (hdg : decode cc pc = .ok (.getfield idx, 3))
    (kk : W p l e R s m args below meth c H locs cells slots Q (F0 m (pc + 3) ls (.int (st.1 k) :: rest))) : W p l e R s m args below meth c H locs cells slots Q (F0 m pc ls (.ref (q L.2.1) :: rest)) :=
  og_getI O X hA.1 (hA.mH hH) k hk hs hlink hdg kk
theorem ag_getIN (O : oOK L C T ty) (X : mX G p m c cc nL s args own) (hA : At G ow h L q st) (hH : mH G h H0 H locs) (k : Nat) (hk : k < L.2.1) (hs : (L.2.2 k).1 = 0) {host : String} (hlink : Cond.fieldLinkNest own idx (T k).1 (T k).2.1 (T k).2.2.1 host ∈ NW) (hdg : decode cc pc = .ok (.getfield idx, 3))
    (kk : W p l e R s m args below meth c H locs cells slots Q (F0 m (pc + 3) ls (.int (st.1 k) :: rest))) : W p l e R s m args below meth c H locs cells slots Q (F0 m pc ls (.ref (q L.2.1) :: rest)) :=
  og_getIN O X hA.1 (hA.mH hH) k hk hs hlink hdg kk
theorem ag_getR (O : oOK L C T ty) (X : mX G p m c cc nL s args own) (hA : At G ow h L q st) (hH : mH G h H0 H locs) (k : Nat) (hk : k < L.2.1) {t : Nat} (hs : (L.2.2 k).1 = t + 2) (hlink : Cond.fieldLink own idx (T k).1 (T k).2.1 (T k).2.2.1 ∈ GW) (hdg : decode cc pc = .ok (.getfield idx, 3))
    (kk : W p l e R s m args below meth c H locs cells slots Q (F0 m (pc + 3) ls (.ref (q k) :: rest))) : W p l e R s m args below meth c H locs cells slots Q (F0 m pc ls (.ref (q L.2.1) :: rest)) :=
  og_getR O X hA.1 (hA.mH hH) k hk hs hlink hdg kk
theorem ag_getRN (O : oOK L C T ty) (X : mX G p m c cc nL s args own) (hA : At G ow h L q st) (hH : mH G h H0 H locs) (k : Nat) (hk : k < L.2.1) {t : Nat} (hs : (L.2.2 k).1 = t + 2) {host : String} (hlink : Cond.fieldLinkNest own idx (T k).1 (T k).2.1 (T k).2.2.1 host ∈ NW) (hdg : decode cc pc = .ok (.getfield idx, 3))
    (kk : W p l e R s m args below meth c H locs cells slots Q (F0 m (pc + 3) ls (.ref (q k) :: rest))) : W p l e R s m args below meth c H locs cells slots Q (F0 m pc ls (.ref (q L.2.1) :: rest)) :=
  og_getRN O X hA.1 (hA.mH hH) k hk hs hlink hdg kk
theorem ag_putI (O : oOK L C T ty) (X : mX G p m c cc nL s args own) (hA : At G ow h L q st) (hH : mH G h H0 H locs) (k : Nat) (hk : k < L.2.1) (hs : (L.2.2 k).1 = 0) (hlink : Cond.fieldLink own idx (T k).1 (T k).2.1 (T k).2.2.1 ∈ GW) (hfin : (T k).2.2.2 = false) {v : Int32} (hn : narrow (ty k) (.int v) = .int v) (hfit : fits (ty k) (.int v) = true) (hdg : decode cc pc = .ok (.putfield idx, 3))
    (kk : ∀ (H1 : Heap) (locs1 : List Loc), mH G (oset L G q (oI st k v) h) H0 H1 locs1 → W p l e R s m args below meth c H1 locs1 cells slots Q (F0 m (pc + 3) ls rest)) : W p l e R s m args below meth c H locs cells slots Q (F0 m pc ls (.int v :: .ref (q L.2.1) :: rest)) :=
  og_putI O X hA.1 (hA.mH hH) k hk hs hlink hfin hn hfit hdg kk
end AG
theorem C1.put {G : mG} {ow : Nat → Nat} {m : mM} {L : LY} {q : Nat → Nat} {st x : OS} {a : Nat} {e : va_E} (hC : C1 ow m a e) (hA : At G ow m L q st) (hn : q L.2.1 ≠ a) : C1 ow (oset L G q x m) a e := hA.fr.c1 (fun z => hn z.symm) hC
theorem At.up {G : mG} {ow : Nat → Nat} {m : mM} {L : LY} {q : Nat → Nat} {st : OS} {a : Nat} {e e' : va_E} (hA : At G ow m L q st) (hC : C1 ow m a e) (hn : q L.2.1 ≠ a) : At G ow (va_up m a (some e')) L q st := hC.fr.at hn hA
/-! worlds: copies -/
def sameW (x y : OS) : Prop := x.1 0 = y.1 0 ∧ x.1 1 = y.1 1 ∧ ∀ i, i < 64 → x.2.2.2 2 i = y.2.2.2 2 i ∧ x.2.2.2 3 i = y.2.2.2 3 i ∧ x.2.2.2 4 i = y.2.2.2 4 i
theorem sameW.rf {x : OS} : sameW x x := ⟨rfl, rfl, fun _ _ => ⟨rfl, rfl, rfl⟩⟩
theorem sameW.tr {x y z : OS} (h : sameW x y) (k : sameW y z) : sameW x z := ⟨h.1.trans k.1, h.2.1.trans k.2.1, fun i hi => ⟨(h.2.2 i hi).1.trans (k.2.2 i hi).1, (h.2.2 i hi).2.1.trans (k.2.2 i hi).2.1, (h.2.2 i hi).2.2.trans (k.2.2 i hi).2.2⟩⟩
theorem sb_cpy0L {f g : Nat → Int64} {n j : Nat} (h : j < n) : va_cpy f g 0 0 n j = f j := by
  rw [pk_cpy_in (Nat.zero_le _) (by omega)]
  congr 1
  omega
theorem f_copy_all (a b : OS) : ∃ x, f_X10_copy a b = some x ∧ sameW x b := by
  refine ⟨oB (oB (oB (oI (oI a 0 (b.1 0)) 1 (b.1 1)) 2 (va_cpy (b.2.2.2 2) (a.2.2.2 2) 0 0 64)) 3 (va_cpy (b.2.2.2 3) (a.2.2.2 3) 0 0 64)) 4 (va_cpy (b.2.2.2 4) (a.2.2.2 4) 0 0 64), ?_, rfl, rfl, fun i hi => ⟨?_, ?_, ?_⟩⟩
  · unfold f_X10_copy
    simp only [bnd, show okc 0 0 64 64 64 = true from by decide, if_true]
    rfl
  · exact sb_cpy0L hi
  · exact sb_cpy0L hi
  · exact sb_cpy0L hi
theorem c_copyA {l : Launch} {G : mG} {ow : Nat → Nat} {m : mM} {q q1 : Nat → Nat} {st st1 : OS} (h : At G ow m LX10 q st) (h1 : At G ow m LX10 q1 st1) (hn : q 5 ≠ q1 5) : ∃ x, sameW x st1 ∧ cQ l G yX10_copy cX10_copy 2 none rm_X10_copy [.ref (q 5), .ref (q1 5)] m (mQv G (fun m' => m' = oset LX10 G q x m)) := by
  obtain ⟨x, hx, hs⟩ := f_copy_all st st1
  have hc := c_X10_copy (l := l) (G := G) (h := m) h.1 h1.1 (oap2 (h.dis h1 hn)) hx
  rw [h1.eq, h.eq] at hc
  exact ⟨x, hs, hc⟩
theorem cQ.mono {l : Launch} {G : mG} {y : MethodName} {cb : ByteArray} {mL : Nat} {ret : Option FieldType} {rm : Room} {av : List Value} {m : mM} {Qc Qc' : Array Value → State → Outcome → State → Prop} (h : cQ l G y cb mL ret rm av m Qc) (hQ : ∀ a s o t, Qc a s o t → Qc' a s o t) : cQ l G y cb mL ret rm av m Qc' := by
  unfold cQ Met at h ⊢
  exact MetFree.mono h (fun _ _ z => z) (fun _ _ _ _ _ z => z) (fun a s o t _ z => ⟨hQ a s o t z.1, z.2⟩)
theorem mQv.mono {G : mG} {P P' : mM → Prop} (h : ∀ m, P m → P' m) : ∀ a s o t, mQv G P a s o t → mQv G P' a s o t := by
  intro a s o t ⟨⟨u, h1, h2, h3⟩, h4⟩
  exact ⟨⟨u, h1, h _ h2, h3⟩, h4⟩
theorem mQi.mono {G : mG} {P P' : Int32 → mM → Prop} (h : ∀ r m, P r m → P' r m) : ∀ a s o t, mQi G P a s o t → mQi G P' a s o t := by
  intro a s o t ⟨⟨r, u, h1, h2, h3⟩, h4⟩
  exact ⟨⟨r, u, h1, h _ _ h2, h3⟩, h4⟩
theorem mQl.mono {G : mG} {P P' : Int64 → mM → Prop} (h : ∀ r m, P r m → P' r m) : ∀ a s o t, mQl G P a s o t → mQl G P' a s o t := by
  intro a s o t ⟨⟨r, u, h1, h2, h3⟩, h4⟩
  exact ⟨⟨r, u, h1, h _ _ h2, h3⟩, h4⟩
/-! the History -/
def Wany (G : mG) (ow : Nat → Nat) (m : mM) (a : Nat) : Prop := ∃ q st, q 5 = a ∧ At G ow m LX10 q st
def Wat (G : mG) (ow : Nat → Nat) (m : mM) (a : Nat) (y : OS) : Prop := ∃ q st, q 5 = a ∧ At G ow m LX10 q st ∧ sameW st y
theorem Wat.any {G : mG} {ow : Nat → Nat} {m : mM} {a : Nat} {y : OS} (h : Wat G ow m a y) : Wany G ow m a := by
  obtain ⟨q, st, h1, h2, -⟩ := h
  exact ⟨q, st, h1, h2⟩
theorem Wat.fr {G : mG} {ow ow' : Nat → Nat} {m m' : mM} {a : Nat} {y : OS} {S : Nat → Prop} (h : Wat G ow m a y) (hF : Fr S ow m ow' m') (hn : ¬ S a) : Wat G ow' m' a y := by
  obtain ⟨q, st, h1, h2, h3⟩ := h
  exact ⟨q, st, h1, hF.at (by show ¬ S (q 5); rw [h1]; exact hn) h2, h3⟩
theorem Wany.fr {G : mG} {ow ow' : Nat → Nat} {m m' : mM} {a : Nat} {S : Nat → Prop} (h : Wany G ow m a) (hF : Fr S ow m ow' m') (hn : ¬ S a) : Wany G ow' m' a := by
  obtain ⟨q, st, h1, h2⟩ := h
  exact ⟨q, st, h1, hF.at (by show ¬ S (q 5); rw [h1]; exact hn) h2⟩
theorem Wany.ne0 {G : mG} {ow : Nat → Nat} {m : mM} {a : Nat} (h : Wany G ow m a) : m a ≠ none := by
  obtain ⟨q, st, h1, h2⟩ := h
  rw [← h1]
  exact fun z => by have := h2.root; rw [show q LX10.2.1 = q 5 from rfl, z] at this; cases this
theorem Wany.neC {G : mG} {ow : Nat → Nat} {m : mM} {a b : Nat} {y : ClassId × vp_A} (h : Wany G ow m a) (hC : C1 ow m b (.inl y)) : a ≠ b := by
  obtain ⟨q, st, h1, h2⟩ := h
  rw [← h1]
  exact h2.neC hC
/-- a row of worlds: what its places hold -/
def Row (G : mG) (ow : Nat → Nat) (m : mM) (n r : Nat) (f : Nat → Option Nat) : Prop := C1 ow m r (aQ G 4 n f) ∧ (∀ i a, f i = some a → Wany G ow m a) ∧ (∀ i j a, f i = some a → f j = some a → i = j)
def Holds (G : mG) (ow : Nat → Nat) (m : mM) (f : Nat → Option Nat) (ys : List OS) : Prop := ∀ i y, ys[i]? = some y → ∃ a, f i = some a ∧ Wat G ow m a y

theorem hd_X1_store : mHd yX1_store 3 := ⟨by decide +kernel, by decide +kernel, by decide +kernel⟩
theorem DX1_store_0 : ∀ t ∈ ([(0, .iload_n 1, 1), (1, .ifCond .lt 9, 3), (4, .iload_n 1, 1), (5, .aload_n 0, 1), (6, .arraylength, 1), (7, .if_icmp .lt 4, 3), (10, .return_, 1), (11, .aload_n 0, 1), (12, .iload_n 1, 1), (13, .aaload, 1), (14, .astore_n 3, 1), (15, .aload_n 3, 1), (16, .ifnonnull 15, 3), (19, .new 9, 3), (22, .dup, 1), (23, .invokespecial 32, 3), (26, .astore_n 3, 1), (27, .aload_n 0, 1), (28, .iload_n 1, 1), (29, .aload_n 3, 1), (30, .aastore, 1), (31, .aload_n 3, 1), (32, .aload_n 2, 1), (33, .invokevirtual 33, 3), (36, .return_, 1)] : List (Nat × Instr × Nat)), decode cX1_store t.1 = .ok (t.2.1, t.2.2) := by decide +kernel
theorem hd_X1_fetch : mHd yX1_fetch 3 := ⟨by decide +kernel, by decide +kernel, by decide +kernel⟩
theorem DX1_fetch_0 : ∀ t ∈ ([(0, .iload_n 1, 1), (1, .ifCond .lt 9, 3), (4, .iload_n 1, 1), (5, .aload_n 0, 1), (6, .arraylength, 1), (7, .if_icmp .lt 4, 3), (10, .return_, 1), (11, .aload_n 0, 1), (12, .iload_n 1, 1), (13, .aaload, 1), (14, .astore_n 3, 1), (15, .aload_n 3, 1), (16, .ifnull 8, 3), (19, .aload_n 2, 1), (20, .aload_n 3, 1), (21, .invokevirtual 33, 3), (24, .return_, 1)] : List (Nat × Instr × Nat)), decode cX1_fetch t.1 = .ok (t.2.1, t.2.2) := by decide +kernel
theorem hd_X1_keep : mHd yX1_keep 1 := ⟨by decide +kernel, by decide +kernel, by decide +kernel⟩
theorem DX1_keep_0 : ∀ t ∈ ([(0, .aload_n 0, 1), (1, .getfield 18, 3), (4, .bipush 20, 2), (6, .if_icmp .lt 54, 3), (9, .aload_n 0, 1), (10, .getfield 11, 3), (13, .iconst 0, 1), (14, .aaload, 1), (15, .astore_n 2, 1), (16, .iconst 0, 1), (17, .istore_n 3, 1), (18, .iload_n 3, 1), (19, .iconst 1, 1), (20, .iadd, 1), (21, .bipush 20, 2), (23, .if_icmp .ge 23, 3), (26, .aload_n 0, 1), (27, .getfield 11, 3), (30, .iload_n 3, 1), (31, .aload_n 0, 1), (32, .getfield 11, 3), (35, .iload_n 3, 1), (36, .iconst 1, 1), (37, .iadd, 1), (38, .aaload, 1), (39, .aastore, 1), (40, .iinc 3 1, 3), (43, .goto (-25), 3), (46, .aload_n 0, 1), (47, .getfield 11, 3), (50, .bipush 19, 2), (52, .aload_n 2, 1), (53, .aastore, 1), (54, .aload_n 0, 1), (55, .bipush 19, 2), (57, .putfield 18, 3), (60, .aload_n 0, 1), (61, .getfield 11, 3), (64, .aload_n 0, 1), (65, .getfield 18, 3), (68, .aload_n 1, 1), (69, .invokestatic 25, 3), (72, .aload_n 0, 1), (73, .dup, 1), (74, .getfield 18, 3), (77, .iconst 1, 1), (78, .iadd, 1), (79, .putfield 18, 3), (82, .aload_n 0, 1), (83, .iconst 0, 1), (84, .putfield 22, 3), (87, .return_, 1)] : List (Nat × Instr × Nat)), decode cX1_keep t.1 = .ok (t.2.1, t.2.2) := by decide +kernel
theorem hd_X1_goBack : mHd yX1_goBack 1 := ⟨by decide +kernel, by decide +kernel, by decide +kernel⟩
theorem DX1_goBack_0 : ∀ t ∈ ([(0, .aload_n 0, 1), (1, .getfield 18, 3), (4, .ifCond .gt 5, 3), (7, .iconst 0, 1), (8, .ireturn, 1), (9, .aload_n 0, 1), (10, .getfield 15, 3), (13, .aload_n 0, 1), (14, .getfield 22, 3), (17, .aload_n 1, 1), (18, .invokestatic 25, 3), (21, .aload_n 0, 1), (22, .dup, 1), (23, .getfield 22, 3), (26, .iconst 1, 1), (27, .iadd, 1), (28, .putfield 22, 3), (31, .aload_n 0, 1), (32, .dup, 1), (33, .getfield 18, 3), (36, .iconst 1, 1), (37, .isub, 1), (38, .putfield 18, 3), (41, .aload_n 0, 1), (42, .getfield 11, 3), (45, .aload_n 0, 1), (46, .getfield 18, 3), (49, .aload_n 1, 1), (50, .invokestatic 29, 3), (53, .iconst 1, 1), (54, .ireturn, 1)] : List (Nat × Instr × Nat)), decode cX1_goBack t.1 = .ok (t.2.1, t.2.2) := by decide +kernel
theorem hd_X1_goOn : mHd yX1_goOn 1 := ⟨by decide +kernel, by decide +kernel, by decide +kernel⟩
theorem DX1_goOn_0 : ∀ t ∈ ([(0, .aload_n 0, 1), (1, .getfield 22, 3), (4, .ifCond .gt 5, 3), (7, .iconst 0, 1), (8, .ireturn, 1), (9, .aload_n 0, 1), (10, .getfield 11, 3), (13, .aload_n 0, 1), (14, .getfield 18, 3), (17, .aload_n 1, 1), (18, .invokestatic 25, 3), (21, .aload_n 0, 1), (22, .dup, 1), (23, .getfield 18, 3), (26, .iconst 1, 1), (27, .iadd, 1), (28, .putfield 18, 3), (31, .aload_n 0, 1), (32, .dup, 1), (33, .getfield 22, 3), (36, .iconst 1, 1), (37, .isub, 1), (38, .putfield 22, 3), (41, .aload_n 0, 1), (42, .getfield 15, 3), (45, .aload_n 0, 1), (46, .getfield 22, 3), (49, .aload_n 1, 1), (50, .invokestatic 29, 3), (53, .iconst 1, 1), (54, .ireturn, 1)] : List (Nat × Instr × Nat)), decode cX1_goOn t.1 = .ok (t.2.1, t.2.2) := by decide +kernel
abbrev rm_X1_fetch : Room := { frames := 2, cells := 0, slots := 0, locals := 61 }
abbrev rm_X1_store : Room := { frames := 2, cells := 4, slots := 197, locals := 61 }
set_option maxHeartbeats 4000000 in
set_option maxRecDepth 100000 in
theorem c_X1_fetch {l : Launch} {G : mG} {ow : Nat → Nat} {m : mM} {n : Nat} {q q1 : Nat → Nat} {st st1 : OS} (hq : At G ow m LX10 q st) (hq1 : At G ow m LX10 q1 st1) (hn : q 5 ≠ q1 5) {r i : Nat} {f : Nat → Option Nat} (hC : m r = some (aQ G 4 20 f)) (hi : i < 20) (hf : f i = some (q1 5)) :
    cQ l G yX1_fetch cX1_fetch 4 none rm_X1_fetch [.ref r, .int (nI i), .ref (q 5)] m (mQv G (fun m' => ∃ x, sameW x st1 ∧ m' = oset LX10 G q x m)) := by
  refine mp_of (by decide +kernel) (Nat.le_of_ble_eq_true rfl) ?_
  intro p e s m below meth c X hr hlk hH hname ls hl
  replace hl : lv_has ls 4 [(0, .ref r), (1, .int (nI i)), (2, .ref (q 5))] := hl
  refine lv_iload_n X.x X.b (dk DX1_fetch_0 0 rfl) rfl (lv_at hl 1 rfl) ?_
  refine lv_if_lt (tgt := 10) X.x X.b (dk DX1_fetch_0 1 rfl) (by decide) (fun z => absurd z (nI_pos (by omega))) (fun _ => ?_)
  refine lv_iload_n X.x X.b (dk DX1_fetch_0 2 rfl) rfl (lv_at hl 1 rfl) ?_
  refine lv_aload_n X.x X.b (dk DX1_fetch_0 3 rfl) rfl (lv_at hl 0 rfl) ?_
  refine va_alen (v := 20) X.x X.b X.2.1 (hH.1.one hC) 0 4 rfl rfl rfl (dk DX1_fetch_0 4 rfl) ?_
  refine lv_icmp_lt (tgt := 11) X.x X.b (dk DX1_fetch_0 5 rfl) (by decide) (fun _ => ?_) (fun z => absurd (show nI i < nI 20 from nI_lt hi (by decide)) z)
  refine lv_aload_n X.x X.b (dk DX1_fetch_0 7 rfl) rfl (lv_at hl 0 rfl) ?_
  refine lv_iload_n X.x X.b (dk DX1_fetch_0 8 rfl) rfl (lv_at hl 1 rfl) ?_
  refine mr_aald (t := 4) X hH rfl hC (vp_in_nI hi (by decide)) (dk DX1_fetch_0 9 rfl) ?_
  rw [nI_clamp (by omega), hf]
  refine lv_astore_n (lv' := [(3, .ref (q1 5)), (0, .ref r), (1, .int (nI i)), (2, .ref (q 5))]) X.x X.b (dk DX1_fetch_0 10 rfl) rfl hl (by decide) rfl (fun ls hl => ?_)
  replace hl : lv_has ls 4 [(2, .ref (q 5)), (3, .ref (q1 5))] := lv_sub hl [3, 0] rfl
  refine lv_aload_n X.x X.b (dk DX1_fetch_0 11 rfl) rfl (lv_at hl 1 rfl) ?_
  refine lv_ifnull X.x X.b (dk DX1_fetch_0 12 rfl) ?_
  refine lv_aload_n X.x X.b (dk DX1_fetch_0 13 rfl) rfl (lv_at hl 0 rfl) ?_
  refine lv_aload_n X.x X.b (dk DX1_fetch_0 14 rfl) rfl (lv_at hl 1 rfl) ?_
  obtain ⟨x, hx, hcp⟩ := c_copyA (l := l) hq hq1 hn
  refine mr_cv0 hH ⟨rfl, rfl⟩ (mr_runV (As := [.ref (q1 5)]) (rest := []) X hH hcp hq.root OX10.1 kM_X1_33 kI_X10_copy kS_X10_copy kN_X10 kC_X10_copy hd_X10_copy ⟨Nat.le_of_ble_eq_true rfl, Nat.le_of_ble_eq_true rfl⟩ rfl hl.1 (Nat.le_of_ble_eq_true rfl) (dk DX1_fetch_0 15 rfl) ⟨Nat.le_of_ble_eq_true rfl, Nat.le_of_ble_eq_true rfl⟩) (fun h1 H locs hp hH => ?_)
  exact mr_vret X hr hlk hH ⟨x, hx, hp⟩ (dk DX1_fetch_0 16 rfl)
set_option maxHeartbeats 4000000 in
set_option maxRecDepth 100000 in
theorem c_X1_store {l : Launch} {G : mG} {ow : Nat → Nat} {m : mM} {q q1 : Nat → Nat} {st st1 : OS} (hq : At G ow m LX10 q st) (hq1 : At G ow m LX10 q1 st1) (hn : q1 5 ≠ q 5) {r i : Nat} {f : Nat → Option Nat} (hC : m r = some (aQ G 4 20 f)) (hi : i < 20) (hf : f i = some (q1 5)) :
    cQ l G yX1_store cX1_store 4 none rm_X1_store [.ref r, .int (nI i), .ref (q 5)] m (mQv G (fun m' => ∃ x, sameW x st ∧ m' = oset LX10 G q1 x m)) := by
  refine mp_of (by decide +kernel) (Nat.le_of_ble_eq_true rfl) ?_
  intro p e s m below meth c X hr hlk hH hname ls hl
  replace hl : lv_has ls 4 [(0, .ref r), (1, .int (nI i)), (2, .ref (q 5))] := hl
  refine lv_iload_n X.x X.b (dk DX1_store_0 0 rfl) rfl (lv_at hl 1 rfl) ?_
  refine lv_if_lt (tgt := 10) X.x X.b (dk DX1_store_0 1 rfl) (by decide) (fun z => absurd z (nI_pos (by omega))) (fun _ => ?_)
  refine lv_iload_n X.x X.b (dk DX1_store_0 2 rfl) rfl (lv_at hl 1 rfl) ?_
  refine lv_aload_n X.x X.b (dk DX1_store_0 3 rfl) rfl (lv_at hl 0 rfl) ?_
  refine va_alen (v := 20) X.x X.b X.2.1 (hH.1.one hC) 0 4 rfl rfl rfl (dk DX1_store_0 4 rfl) ?_
  refine lv_icmp_lt (tgt := 11) X.x X.b (dk DX1_store_0 5 rfl) (by decide) (fun _ => ?_) (fun z => absurd (show nI i < nI 20 from nI_lt hi (by decide)) z)
  refine lv_aload_n X.x X.b (dk DX1_store_0 7 rfl) rfl (lv_at hl 0 rfl) ?_
  refine lv_iload_n X.x X.b (dk DX1_store_0 8 rfl) rfl (lv_at hl 1 rfl) ?_
  refine mr_aald (t := 4) X hH rfl hC (vp_in_nI hi (by decide)) (dk DX1_store_0 9 rfl) ?_
  rw [nI_clamp (by omega), hf]
  refine lv_astore_n (lv' := [(3, .ref (q1 5)), (0, .ref r), (1, .int (nI i)), (2, .ref (q 5))]) X.x X.b (dk DX1_store_0 10 rfl) rfl hl (by decide) rfl (fun ls hl => ?_)
  replace hl : lv_has ls 4 [(0, .ref r), (1, .int (nI i)), (2, .ref (q 5)), (3, .ref (q1 5))] := lv_sub hl [1, 2, 3, 0] rfl
  refine lv_aload_n X.x X.b (dk DX1_store_0 11 rfl) rfl (lv_at hl 3 rfl) ?_
  refine lv_ifnonnull (tgt := 31) X.x X.b (dk DX1_store_0 12 rfl) (by decide) ?_
  refine lv_aload_n X.x X.b (dk DX1_store_0 21 rfl) rfl (lv_at hl 3 rfl) ?_
  refine lv_aload_n X.x X.b (dk DX1_store_0 22 rfl) rfl (lv_at hl 2 rfl) ?_
  obtain ⟨x, hx, hcp⟩ := c_copyA (l := l) hq1 hq hn
  refine mr_cv0 hH ⟨rfl, rfl⟩ (mr_runV (As := [.ref (q 5)]) (rest := []) X hH hcp hq1.root OX10.1 kM_X1_33 kI_X10_copy kS_X10_copy kN_X10 kC_X10_copy hd_X10_copy ⟨Nat.le_of_ble_eq_true rfl, Nat.le_of_ble_eq_true rfl⟩ rfl hl.1 (Nat.le_of_ble_eq_true rfl) (dk DX1_store_0 23 rfl) ⟨Nat.le_of_ble_eq_true rfl, Nat.le_of_ble_eq_true rfl⟩) (fun h1 H locs hp hH => ?_)
  exact W.widen (k := 4) (n := 197) (Nat.zero_le _) (Nat.zero_le _) (mr_vret X hr hlk hH ⟨x, hx, hp⟩ (dk DX1_store_0 24 rfl))
set_option maxHeartbeats 4000000 in
set_option maxRecDepth 100000 in
theorem c_X1_storeN {l : Launch} {G : mG} {ow : Nat → Nat} {m : mM} {q : Nat → Nat} {st : OS} (hq : At G ow m LX10 q st) {r i : Nat} {f : Nat → Option Nat} (hC : C1 ow m r (aQ G 4 20 f)) (hi : i < 20) (hf : f i = none) :
    cQ l G yX1_store cX1_store 4 none rm_X1_store [.ref r, .int (nI i), .ref (q 5)] m (mQv G (fun m' => ∃ q1 x, sameW x st ∧ oinj LX10 q1 ∧ (∀ k, k ≤ LX10.2.1 → ohas LX10 k = true → m (q1 k) = none) ∧ m' = oset LX10 G q1 x (va_up (oset LX10 G q1 stX10 m) r (some (aQ G 4 20 (va_up f i (some (q1 5)))))))) := by
  refine mp_of (by decide +kernel) (Nat.le_of_ble_eq_true rfl) ?_
  intro p e s m9 below meth c X hr hlk hH hname ls hl
  replace hl : lv_has ls 4 [(0, .ref r), (1, .int (nI i)), (2, .ref (q 5))] := hl
  refine lv_iload_n X.x X.b (dk DX1_store_0 0 rfl) rfl (lv_at hl 1 rfl) ?_
  refine lv_if_lt (tgt := 10) X.x X.b (dk DX1_store_0 1 rfl) (by decide) (fun z => absurd z (nI_pos (by omega))) (fun _ => ?_)
  refine lv_iload_n X.x X.b (dk DX1_store_0 2 rfl) rfl (lv_at hl 1 rfl) ?_
  refine lv_aload_n X.x X.b (dk DX1_store_0 3 rfl) rfl (lv_at hl 0 rfl) ?_
  refine va_alen (v := 20) X.x X.b X.2.1 (hH.1.one hC.1) 0 4 rfl rfl rfl (dk DX1_store_0 4 rfl) ?_
  refine lv_icmp_lt (tgt := 11) X.x X.b (dk DX1_store_0 5 rfl) (by decide) (fun _ => ?_) (fun z => absurd (show nI i < nI 20 from nI_lt hi (by decide)) z)
  refine lv_aload_n X.x X.b (dk DX1_store_0 7 rfl) rfl (lv_at hl 0 rfl) ?_
  refine lv_iload_n X.x X.b (dk DX1_store_0 8 rfl) rfl (lv_at hl 1 rfl) ?_
  refine mr_aald (t := 4) X hH rfl hC.1 (vp_in_nI hi (by decide)) (dk DX1_store_0 9 rfl) ?_
  rw [nI_clamp (by omega), hf]
  refine lv_astore_nN (lv' := [(3, .null), (0, .ref r), (1, .int (nI i)), (2, .ref (q 5))]) X.x X.b (dk DX1_store_0 10 rfl) rfl hl (by decide) rfl (fun ls hl => ?_)
  replace hl : lv_has ls 4 [(0, .ref r), (1, .int (nI i)), (2, .ref (q 5)), (3, .null)] := lv_sub hl [1, 2, 3, 0] rfl
  refine lv_aload_nN X.x X.b (dk DX1_store_0 11 rfl) rfl (lv_at hl 3 rfl) ?_
  refine lv_ifnonnullN X.x X.b (dk DX1_store_0 12 rfl) ?_
  refine mr_mk (L := LX10) (st := stX10) (S := (fun es _ => es = [])) (fun _ _ _ z => newP.simple z) X hH hinX10 tyX10_ok rfl kL_X1_9 kB_X10 kN_X10 dfl_X10 (fun x9 h9 hx9 => c_X10_init hx9) kMN_X1_32 kI_X10_init kN_X10 kC_X10_init rfl hd_X10_init ⟨Nat.le_of_ble_eq_true rfl, Nat.le_of_ble_eq_true rfl⟩ hl.1 (Nat.le_of_ble_eq_true rfl) (Nat.le_of_ble_eq_true rfl) (Nat.le_of_ble_eq_true rfl) ⟨Nat.le_of_ble_eq_true rfl, Nat.le_of_ble_eq_true rfl⟩ (dk DX1_store_0 13 rfl) (dk DX1_store_0 14 rfl) (dk DX1_store_0 15 rfl) (fun q1 es H locs hS hi1 hf1 hH => ?_)
  have hS : es = [] := hS
  subst hS
  have hfn : ∀ k, k ≤ LX10.2.1 → ohas LX10 k = true → m (q1 k) = none := fun k hk hh => hf1.2 (q1 k) ⟨k, hk, hh, rfl⟩
  replace hH : mH G (oset LX10 G q1 stX10 m) s.heap H locs := hH
  have hN : At G (ownN LX10 q1 ow) (oset LX10 G q1 stX10 m) LX10 q1 stX10 := At.new hi1
  have hFr : Fr (fun _ => False) ow m (ownN LX10 q1 ow) (oset LX10 G q1 stX10 m) := Fr.new hfn
  have hC1 := hFr.c1 id hC
  have hQ1 := hFr.at id hq
  refine lv_astore_n (lv' := [(3, .ref (q1 5)), (0, .ref r), (1, .int (nI i)), (2, .ref (q 5))]) X.x X.b (dk DX1_store_0 16 rfl) rfl hl (by decide) rfl (fun ls hl => ?_)
  replace hl : lv_has ls 4 [(0, .ref r), (1, .int (nI i)), (2, .ref (q 5)), (3, .ref (q1 5))] := lv_sub hl [1, 2, 3, 0] rfl
  refine lv_aload_n X.x X.b (dk DX1_store_0 17 rfl) rfl (lv_at hl 0 rfl) ?_
  refine lv_iload_n X.x X.b (dk DX1_store_0 18 rfl) rfl (lv_at hl 1 rfl) ?_
  refine lv_aload_n X.x X.b (dk DX1_store_0 19 rfl) rfl (lv_at hl 3 rfl) ?_
  refine mr_aast (t := 4) X hH rfl hC1.1 hN.root OX10.1 (vp_in_nI hi (by decide)) (dk DX1_store_0 20 rfl) (fun H locs hH => ?_)
  rw [nI_clamp (by omega)] at hH
  have hN2 := hN.up (e' := aQ G 4 20 (va_up f i (some (q1 5)))) hC1 (hN.neC hC1)
  have hQ2 := hQ1.up (e' := aQ G 4 20 (va_up f i (some (q1 5)))) hC1 (hQ1.neC hC1)
  have hne : q1 5 ≠ q 5 := fun z => by have h8 := hfn 5 (Nat.le_refl _) ohas_N; rw [z] at h8; have h9 := hq.root; rw [show q LX10.2.1 = q 5 from rfl, h8] at h9; cases h9
  refine lv_aload_n X.x X.b (dk DX1_store_0 21 rfl) rfl (lv_at hl 3 rfl) ?_
  refine lv_aload_n X.x X.b (dk DX1_store_0 22 rfl) rfl (lv_at hl 2 rfl) ?_
  obtain ⟨x, hx, hcp⟩ := c_copyA (l := l) hN2 hQ2 hne
  refine mr_cv0 hH ⟨rfl, rfl⟩ (mr_runV (As := [.ref (q 5)]) (rest := []) X hH hcp hN2.root OX10.1 kM_X1_33 kI_X10_copy kS_X10_copy kN_X10 kC_X10_copy hd_X10_copy ⟨Nat.le_of_ble_eq_true rfl, Nat.le_of_ble_eq_true rfl⟩ rfl hl.1 (Nat.le_of_ble_eq_true rfl) (dk DX1_store_0 23 rfl) ⟨Nat.le_of_ble_eq_true rfl, Nat.le_of_ble_eq_true rfl⟩) (fun h1 H locs hp hH => ?_)
  exact mr_vret X hr hlk hH ⟨q1, x, hx, hi1, hfn, hp⟩ (dk DX1_store_0 24 rfl)
