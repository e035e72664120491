/-! Arrays.fill, and an array of an object as a whole -/
def fillF {α : Type} (n : Nat) (v : α) (f : Nat → α) : Nat → α := fun j => if j < n then v else f j
theorem fillF_J (i : Nat) (v : Int64) (f : Nat → Int64) : vp_updL (fillF i v f) i v = fillF (i + 1) v f := by
  funext j
  simp only [vp_updL, fillF]
  by_cases h : j = i
  · subst h; simp
  · by_cases h2 : j < i
    · rw [if_neg h, if_pos h2, if_pos (by omega)]
    · rw [if_neg h, if_neg h2, if_neg (by omega)]
theorem fillF_I (i : Nat) (v : Int32) (f : Nat → Int32) : upd (fillF i v f) i v = fillF (i + 1) v f := by
  funext j
  simp only [upd, fillF]
  by_cases h : j = i
  · subst h; simp
  · by_cases h2 : j < i
    · rw [if_neg h, if_pos h2, if_pos (by omega)]
    · rw [if_neg h, if_neg h2, if_neg (by omega)]
theorem fillF_0 {α : Type} (v : α) (f : Nat → α) : fillF 0 v f = f := by funext j; simp [fillF]
theorem va_up_up {α : Type} (h : Nat → α) (a : Nat) (x y : α) : va_up (va_up h a x) a y = va_up h a y := by funext j; simp only [va_up]; split <;> rfl
theorem va_up_eq {α : Type} (h : Nat → α) (a : Nat) (x : α) (e : h a = x) : va_up h a x = h := by funext j; simp only [va_up]; split <;> simp_all
theorem oup_B {L : LY} {G : mG} {q : Nat → Nat} {st : OS} {h : mM} (hq : oinj L q) (k : Nat) {n : Nat} (hk : k < L.2.1) (hs : L.2.2 k = (3, n)) (g : Nat → Int64) : va_up (oset L G q st h) (q k) (some (aJ G n g)) = oset L G q (oB st k g) h :=
  oset_up hq (Nat.le_of_lt hk) (ohas_k hk hs (by decide) (by decide)) (by rw [oc_k hk hs]; simp [oB, va_up]) (fun j _ _ hjk => by simp [ocell, ofs, oB, va_up, hjk])
theorem oup_A {L : LY} {G : mG} {q : Nat → Nat} {st : OS} {h : mM} (hq : oinj L q) (k : Nat) {n : Nat} (hk : k < L.2.1) (hs : L.2.2 k = (2, n)) (g : Nat → Int32) : va_up (oset L G q st h) (q k) (some (aI G n g)) = oset L G q (oA st k g) h :=
  oset_up hq (Nat.le_of_lt hk) (ohas_k hk hs (by decide) (by decide)) (by rw [oc_k hk hs]; simp [oA, va_up]) (fun j _ _ hjk => by simp [ocell, ofs, oA, va_up, hjk])
theorem DJ7_fill_d0a16_0 : ∀ t ∈ ([(0, .iconst 0, 1), (1, .istore_n 3, 1), (2, .aload_n 0, 1), (3, .arraylength, 1), (4, .istore 4, 2), (6, .iload_n 3, 1), (7, .iload 4, 2), (9, .if_icmp .ge 13, 3), (12, .aload_n 0, 1), (13, .iload_n 3, 1), (14, .lload_n 1, 1), (15, .lastore, 1), (16, .iinc 3 1, 3), (19, .goto (-13), 3), (22, .return_, 1)] : List (Nat × Instr × Nat)), decode cJ7_fill_d0a16 t.1 = .ok (t.2.1, t.2.2) := by decide +kernel
abbrev rm_J7_fill_d0a16 : Room := { frames := 0, cells := 0, slots := 0, locals := 0 }
theorem hd_J7_fill_d0a16 : mHd yJ7_fill_d0a16 2 := ⟨by decide +kernel, by decide +kernel, by decide +kernel⟩
set_option maxHeartbeats 4000000 in
set_option maxRecDepth 100000 in
theorem c_J7_fill_d0a16 {l : Launch} {G : mG} {h : mM} {a n : Nat} {f : Nat → Int64} (ha : h a = some (aJ G n f)) (hn : n < 2 ^ 31) (v : Int64) : cQ l G yJ7_fill_d0a16 cJ7_fill_d0a16 5 none rm_J7_fill_d0a16 [.ref a, .long v] h (mQv G (fun h1 => h1 = va_up h a (some (aJ G n (fillF n v f))))) := by
  refine mp_of (by decide +kernel) (Nat.le_of_ble_eq_true rfl) ?_
  intro p e s m below meth c X hr hlk hH hname ls hl
  replace hl : lv_has ls 5 [(0, .ref a), (1, .long v)] := hl
  have loop : ∀ (k i : Nat), i + k = n → ∀ (H : Heap) (locs : List Loc) (ls : Array Slot), mH G (va_up h a (some (aJ G n (fillF i v f)))) s.heap H locs → lv_has ls 5 [(0, .ref a), (1, .long v), (3, .int (nI i)), (4, .int (nI n))] → W p l e rm_J7_fill_d0a16 s m ([.ref a, .long v] : List Value).toArray below meth c H locs 0 0 (MQ below (mQv G (fun h1 => h1 = va_up h a (some (aJ G n (fillF n v f))))) ([.ref a, .long v] : List Value).toArray s 0 0 (mA G)) (F0 m 6 ls []) := by
    intro k
    induction k with
    | zero =>
      intro i hi H locs ls hH hl
      refine lv_iload_n X.x X.b (dk DJ7_fill_d0a16_0 5 rfl) rfl (lv_at hl 2 rfl) ?_
      refine lv_iload X.x X.b (dk DJ7_fill_d0a16_0 6 rfl) (lv_at hl 3 rfl) ?_
      refine lv_icmp_ge (tgt := 22) X.x X.b (dk DJ7_fill_d0a16_0 7 rfl) (by decide) (fun c1 => ?_) (fun c1 => ?_)
      · refine mr_vret X hr hlk hH ?_ (dk DJ7_fill_d0a16_0 14 rfl)
        rw [show i = n by omega]
      · exact absurd ((nI_leI hn (by omega)).mpr (by omega)) c1
    | succ k ih =>
      intro i hi H locs ls hH hl
      refine lv_iload_n X.x X.b (dk DJ7_fill_d0a16_0 5 rfl) rfl (lv_at hl 2 rfl) ?_
      refine lv_iload X.x X.b (dk DJ7_fill_d0a16_0 6 rfl) (lv_at hl 3 rfl) ?_
      refine lv_icmp_ge (tgt := 22) X.x X.b (dk DJ7_fill_d0a16_0 7 rfl) (by decide) (fun c1 => ?_) (fun c1 => ?_)
      · exact absurd ((nI_leI hn (by omega)).mp c1) (by omega)
      · refine lv_aload_n X.x X.b (dk DJ7_fill_d0a16_0 8 rfl) rfl (lv_at hl 0 rfl) ?_
        refine lv_iload_n X.x X.b (dk DJ7_fill_d0a16_0 9 rfl) rfl (lv_at hl 2 rfl) ?_
        refine lv_lload_n X.x X.b (dk DJ7_fill_d0a16_0 10 rfl) rfl (lv_at hl 1 rfl) ?_
        refine mr_last X hH (n := n) (f := fillF i v f) (by simp [va_up]) (vp_in_nI (by omega) hn) (dk DJ7_fill_d0a16_0 11 rfl) (fun H locs hH => ?_)
        rw [va_up_up, nI_clamp (by omega), fillF_J] at hH
        refine lv_iinc (v := nI (i + 1)) (lv' := [(3, .int (nI (i + 1))), (0, .ref a), (1, .long v), (4, .int (nI n))]) X.x X.b (dk DJ7_fill_d0a16_0 12 rfl) hl (k := 2) rfl (nI_1 i) (by decide) rfl (fun ls hl => ?_)
        refine lv_goto (tgt := 6) X.x X.b (dk DJ7_fill_d0a16_0 13 rfl) (by decide) ?_
        exact ih (i + 1) (by omega) _ _ _ hH (lv_sub hl [1, 2, 0, 3] rfl)
  refine lv_iconst (v := 0) X.x X.b (dk DJ7_fill_d0a16_0 0 rfl) (by decide) ?_
  refine lv_istore_n (lv' := [(3, .int 0), (0, .ref a), (1, .long v)]) X.x X.b (dk DJ7_fill_d0a16_0 1 rfl) rfl hl (by decide) rfl (fun ls hl => ?_)
  replace hl : lv_has ls 5 [(0, .ref a), (1, .long v), (3, .int 0)] := lv_sub hl [1, 2, 0] rfl
  refine lv_aload_n X.x X.b (dk DJ7_fill_d0a16_0 2 rfl) rfl (lv_at hl 0 rfl) ?_
  refine va_alen X.x X.b X.2.1 (hH.1.one ha) 0 1 rfl rfl rfl (dk DJ7_fill_d0a16_0 3 rfl) ?_
  refine lv_istore (lv' := [(4, .int (Int32.ofNat n)), (0, .ref a), (1, .long v), (3, .int 0)]) X.x X.b (dk DJ7_fill_d0a16_0 4 rfl) hl (by decide) rfl (fun ls hl => ?_)
  refine loop n 0 (by omega) _ _ _ ?_ (lv_sub hl [1, 2, 3, 0] rfl)
  rw [fillF_0, va_up_eq _ _ _ ha]
  exact hH
theorem DJ7_fill_53178_0 : ∀ t ∈ ([(0, .iconst 0, 1), (1, .istore_n 2, 1), (2, .aload_n 0, 1), (3, .arraylength, 1), (4, .istore_n 3, 1), (5, .iload_n 2, 1), (6, .iload_n 3, 1), (7, .if_icmp .ge 13, 3), (10, .aload_n 0, 1), (11, .iload_n 2, 1), (12, .iload_n 1, 1), (13, .iastore, 1), (14, .iinc 2 1, 3), (17, .goto (-12), 3), (20, .return_, 1)] : List (Nat × Instr × Nat)), decode cJ7_fill_53178 t.1 = .ok (t.2.1, t.2.2) := by decide +kernel
abbrev rm_J7_fill_53178 : Room := { frames := 0, cells := 0, slots := 0, locals := 0 }
theorem hd_J7_fill_53178 : mHd yJ7_fill_53178 2 := ⟨by decide +kernel, by decide +kernel, by decide +kernel⟩
set_option maxHeartbeats 4000000 in
set_option maxRecDepth 100000 in
theorem c_J7_fill_53178 {l : Launch} {G : mG} {h : mM} {a n : Nat} {f : Nat → Int32} (ha : h a = some (aI G n f)) (hn : n < 2 ^ 31) (v : Int32) : cQ l G yJ7_fill_53178 cJ7_fill_53178 4 none rm_J7_fill_53178 [.ref a, .int v] h (mQv G (fun h1 => h1 = va_up h a (some (aI G n (fillF n v f))))) := by
  refine mp_of (by decide +kernel) (Nat.le_of_ble_eq_true rfl) ?_
  intro p e s m below meth c X hr hlk hH hname ls hl
  replace hl : lv_has ls 4 [(0, .ref a), (1, .int v)] := hl
  have loop : ∀ (k i : Nat), i + k = n → ∀ (H : Heap) (locs : List Loc) (ls : Array Slot), mH G (va_up h a (some (aI G n (fillF i v f)))) s.heap H locs → lv_has ls 4 [(0, .ref a), (1, .int v), (2, .int (nI i)), (3, .int (nI n))] → W p l e rm_J7_fill_53178 s m ([.ref a, .int v] : List Value).toArray below meth c H locs 0 0 (MQ below (mQv G (fun h1 => h1 = va_up h a (some (aI G n (fillF n v f))))) ([.ref a, .int v] : List Value).toArray s 0 0 (mA G)) (F0 m 5 ls []) := by
    intro k
    induction k with
    | zero =>
      intro i hi H locs ls hH hl
      refine lv_iload_n X.x X.b (dk DJ7_fill_53178_0 5 rfl) rfl (lv_at hl 2 rfl) ?_
      refine lv_iload_n X.x X.b (dk DJ7_fill_53178_0 6 rfl) rfl (lv_at hl 3 rfl) ?_
      refine lv_icmp_ge (tgt := 20) X.x X.b (dk DJ7_fill_53178_0 7 rfl) (by decide) (fun c1 => ?_) (fun c1 => ?_)
      · refine mr_vret X hr hlk hH ?_ (dk DJ7_fill_53178_0 14 rfl)
        rw [show i = n by omega]
      · exact absurd ((nI_leI hn (by omega)).mpr (by omega)) c1
    | succ k ih =>
      intro i hi H locs ls hH hl
      refine lv_iload_n X.x X.b (dk DJ7_fill_53178_0 5 rfl) rfl (lv_at hl 2 rfl) ?_
      refine lv_iload_n X.x X.b (dk DJ7_fill_53178_0 6 rfl) rfl (lv_at hl 3 rfl) ?_
      refine lv_icmp_ge (tgt := 20) X.x X.b (dk DJ7_fill_53178_0 7 rfl) (by decide) (fun c1 => ?_) (fun c1 => ?_)
      · exact absurd ((nI_leI hn (by omega)).mp c1) (by omega)
      · refine lv_aload_n X.x X.b (dk DJ7_fill_53178_0 8 rfl) rfl (lv_at hl 0 rfl) ?_
        refine lv_iload_n X.x X.b (dk DJ7_fill_53178_0 9 rfl) rfl (lv_at hl 2 rfl) ?_
        refine lv_iload_n X.x X.b (dk DJ7_fill_53178_0 10 rfl) rfl (lv_at hl 1 rfl) ?_
        refine mr_iast X hH (n := n) (f := fillF i v f) (by simp [va_up]) (vp_in_nI (by omega) hn) (dk DJ7_fill_53178_0 11 rfl) (fun H locs hH => ?_)
        rw [va_up_up, nI_clamp (by omega), fillF_I] at hH
        refine lv_iinc (v := nI (i + 1)) (lv' := [(2, .int (nI (i + 1))), (0, .ref a), (1, .int v), (3, .int (nI n))]) X.x X.b (dk DJ7_fill_53178_0 12 rfl) hl (k := 2) rfl (nI_1 i) (by decide) rfl (fun ls hl => ?_)
        refine lv_goto (tgt := 5) X.x X.b (dk DJ7_fill_53178_0 13 rfl) (by decide) ?_
        exact ih (i + 1) (by omega) _ _ _ hH (lv_sub hl [1, 2, 0, 3] rfl)
  refine lv_iconst (v := 0) X.x X.b (dk DJ7_fill_53178_0 0 rfl) (by decide) ?_
  refine lv_istore_n (lv' := [(2, .int 0), (0, .ref a), (1, .int v)]) X.x X.b (dk DJ7_fill_53178_0 1 rfl) rfl hl (by decide) rfl (fun ls hl => ?_)
  replace hl : lv_has ls 4 [(0, .ref a), (1, .int v), (2, .int 0)] := lv_sub hl [1, 2, 0] rfl
  refine lv_aload_n X.x X.b (dk DJ7_fill_53178_0 2 rfl) rfl (lv_at hl 0 rfl) ?_
  refine va_alen X.x X.b X.2.1 (hH.1.one ha) 0 0 rfl rfl rfl (dk DJ7_fill_53178_0 3 rfl) ?_
  refine lv_istore_n (lv' := [(3, .int (Int32.ofNat n)), (0, .ref a), (1, .int v), (2, .int 0)]) X.x X.b (dk DJ7_fill_53178_0 4 rfl) rfl hl (by decide) rfl (fun ls hl => ?_)
  refine loop n 0 (by omega) _ _ _ ?_ (lv_sub hl [1, 2, 3, 0] rfl)
  rw [fillF_0, va_up_eq _ _ _ ha]
  exact hH
