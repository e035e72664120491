abbrev rm_X1_keep : Room := { frames := 3, cells := 4, slots := 197, locals := 84 }
def rotf (f : Nat → Option Nat) (i : Nat) : Nat → Option Nat := fun j => if j < i then f (j + 1) else f j
def rotF (f : Nat → Option Nat) : Nat → Option Nat := va_up (rotf f 19) 19 (f 0)
theorem rotF_at (f : Nat → Option Nat) (j : Nat) : rotF f j = if j < 19 then f (j + 1) else if j = 19 then f 0 else f j := by
  unfold rotF rotf va_up
  by_cases h : j = 19
  · subst h; simp
  · simp only [if_neg h]
theorem rotF_of (f : Nat → Option Nat) (j : Nat) : ∃ k, rotF f j = f k ∧ (j < 20 → k < 20) := by
  rw [rotF_at]
  by_cases h : j < 19
  · exact ⟨j + 1, by rw [if_pos h], by omega⟩
  · by_cases h2 : j = 19
    · exact ⟨0, by rw [if_neg h, if_pos h2], by omega⟩
    · exact ⟨j, by rw [if_neg h, if_neg h2], id⟩
theorem rotF_to (f : Nat → Option Nat) (k : Nat) : ∃ j, rotF f j = f k := by
  by_cases h : k = 0
  · exact ⟨19, by rw [rotF_at, if_neg (by omega), if_pos rfl, h]⟩
  · by_cases h2 : k < 20
    · exact ⟨k - 1, by rw [rotF_at, if_pos (by omega)]; congr 1; omega⟩
    · exact ⟨k, by rw [rotF_at, if_neg (by omega), if_neg (by omega)]⟩
theorem rotF_inj {f : Nat → Option Nat} (h : ∀ i j a, f i = some a → f j = some a → i = j) : ∀ i j a, rotF f i = some a → rotF f j = some a → i = j := by
  intro i j a hi hj
  rw [rotF_at] at hi hj
  split at hi <;> split at hj
  · have := h _ _ _ hi hj; omega
  · split at hj
    · have := h _ _ _ hi hj; omega
    · have := h _ _ _ hi hj; omega
  · split at hi
    · have := h _ _ _ hi hj; omega
    · have := h _ _ _ hi hj; omega
  · split at hi <;> split at hj
    · omega
    · have := h _ _ _ hi hj; omega
    · have := h _ _ _ hi hj; omega
    · exact h _ _ _ hi hj
def pushB (bs : List OS) (y : OS) : List OS := if bs.length = 20 then bs.tail ++ [y] else bs ++ [y]
set_option maxHeartbeats 4000000 in
set_option maxRecDepth 100000 in
theorem w_X1_keep_18 {p : Program} {l : Launch} {e : Env} {R : Room} {s : State} {m9 : MethodId} {args : Array Value} {below : List Frame} {meth : Method} {c : Code} {cells slots : Nat} {Q : State → Prop} {G : mG} {ow : Nat → Nat} {m : mM} {qh qw : Nat → Nat} {fb : Nat → Option Nat} {a0 : Nat} {sth : OS} (X : mX G p m9 c cX1_keep 4 s args RX1) (hh : At G ow m LX1 qh sth) (hRb : Row G ow m 20 (qh 0) fb) (hocc : ∀ j, j < 20 → ∃ a, fb j = some a)
    (K : ∀ (H : Heap) (locs : List Loc) (ls : Array Slot), mH G (va_up m (qh 0) (some (aQ G 4 20 (rotf fb 19)))) s.heap H locs → lv_has ls 4 [(0, .ref (qh 4)), (1, .ref (qw 5)), (2, .ref a0)] → W p l e R s m9 args below meth c H locs cells slots Q (F0 m9 46 ls [])) :
    ∀ (k i : Nat), i + k = 19 → ∀ (H : Heap) (locs : List Loc) (ls : Array Slot), mH G (va_up m (qh 0) (some (aQ G 4 20 (rotf fb i)))) s.heap H locs → lv_has ls 4 [(0, .ref (qh 4)), (1, .ref (qw 5)), (2, .ref a0), (3, .int (nI i))] → W p l e R s m9 args below meth c H locs cells slots Q (F0 m9 18 ls []) := by
  intro k
  induction k with
  | zero =>
    intro i hk H locs ls hH hl
    refine lv_iload_n X.x X.b (dk DX1_keep_0 11 rfl) rfl (lv_at hl 3 rfl) ?_
    refine lv_iconst (v := 1) X.x X.b (dk DX1_keep_0 12 rfl) (by decide) ?_
    refine lv_iadd X.x X.b (dk DX1_keep_0 13 rfl) ?_
    refine lv_bipush (v := 20) X.x X.b (dk DX1_keep_0 14 rfl) (by decide) ?_
    rw [show nI i + 1 = nI (i + 1) from nI_1 i]
    refine lv_icmp_ge (tgt := 46) X.x X.b (dk DX1_keep_0 15 rfl) (by decide) (fun c => ?_) (fun c => ?_)
    · have hi19 : i = 19 := by
        rcases Nat.lt_or_ge (i + 1) 20 with h | h
        · exact absurd c (nI_ge (a := i + 1) (b := 20) h (by decide))
        · omega
      subst hi19
      exact K H locs ls hH (lv_sub hl [0, 1, 2] rfl)
    · have hi19 : i < 19 := by
        rcases Nat.lt_or_ge (i + 1) 20 with h | h
        · omega
        · exact absurd (nI_le (a := 20) (b := i + 1) h (by omega)) c
      obtain ⟨a1, ha1⟩ := hocc (i + 1) (by omega)
      have hcell : va_up m (qh 0) (some (aQ G 4 20 (rotf fb i))) (qh 0) = some (aQ G 4 20 (rotf fb i)) := by simp [va_up]
      have hh2 := hh.up (e' := aQ G 4 20 (rotf fb i)) hRb.1 (hh.neC hRb.1)
      refine lv_aload_n X.x X.b (dk DX1_keep_0 16 rfl) rfl (lv_at hl 0 rfl) ?_
      refine ag_getR (t := 4) OX1 X hh2 hH 0 (by decide) rfl kF_X1_11 (dk DX1_keep_0 17 rfl) ?_
      refine lv_iload_n X.x X.b (dk DX1_keep_0 18 rfl) rfl (lv_at hl 3 rfl) ?_
      refine lv_aload_n X.x X.b (dk DX1_keep_0 19 rfl) rfl (lv_at hl 0 rfl) ?_
      refine ag_getR (t := 4) OX1 X hh2 hH 0 (by decide) rfl kF_X1_11 (dk DX1_keep_0 20 rfl) ?_
      refine lv_iload_n X.x X.b (dk DX1_keep_0 21 rfl) rfl (lv_at hl 3 rfl) ?_
      refine lv_iconst (v := 1) X.x X.b (dk DX1_keep_0 22 rfl) (by decide) ?_
      refine lv_iadd X.x X.b (dk DX1_keep_0 23 rfl) ?_
      rw [show nI i + 1 = nI (i + 1) from nI_1 i]
      refine mr_aald (t := 4) X hH rfl hcell (vp_in_nI (by omega) (by decide)) (dk DX1_keep_0 24 rfl) ?_
      rw [nI_clamp (by omega), show rotf fb i (i + 1) = some a1 by unfold rotf; rw [if_neg (by omega)]; exact ha1]
      obtain ⟨q1, st1, hq1, hA1⟩ := hRb.2.1 _ _ ha1
      have hA2 := hA1.up (e' := aQ G 4 20 (rotf fb i)) hRb.1 (hA1.neC hRb.1)
      refine mr_aast (t := 4) X hH rfl hcell (v := a1) (by rw [← hq1]; exact hA2.root) OX10.1 (vp_in_nI (by omega) (by decide)) (dk DX1_keep_0 25 rfl) (fun H locs hH => ?_)
      have hup : va_up (va_up m (qh 0) (some (aQ G 4 20 (rotf fb i)))) (qh 0) (some (aQ G 4 20 (va_up (rotf fb i) (nI i).toNatClampNeg (some a1)))) = va_up m (qh 0) (some (aQ G 4 20 (rotf fb (i + 1)))) := by
        rw [bx_uu, nI_clamp (by omega), ← ha1]
        congr 4
        funext j
        by_cases hj : j = i
        · subst hj; simp [va_up, rotf]
        · simp only [va_up, if_neg hj, rotf]
          by_cases hj2 : j < i
          · rw [if_pos hj2, if_pos (by omega)]
          · rw [if_neg hj2, if_neg (by omega)]
      rw [hup] at hH
      refine lv_iinc (v := nI (i + 1)) (lv' := [(3, .int (nI (i + 1))), (0, .ref (qh 4)), (1, .ref (qw 5)), (2, .ref a0)]) X.x X.b (dk DX1_keep_0 26 rfl) hl (k := 3) rfl (by rw [← nI_1]; rfl) (by decide) rfl (fun ls hl => ?_)
      replace hl : lv_has ls 4 [(0, .ref (qh 4)), (1, .ref (qw 5)), (2, .ref a0), (3, .int (nI (i + 1)))] := lv_sub hl [1, 2, 3, 0] rfl
      refine lv_goto (tgt := 18) X.x X.b (dk DX1_keep_0 27 rfl) (by decide) ?_
      exact absurd hi19 (by omega)
  | succ k ih =>
    intro i hk H locs ls hH hl
    refine lv_iload_n X.x X.b (dk DX1_keep_0 11 rfl) rfl (lv_at hl 3 rfl) ?_
    refine lv_iconst (v := 1) X.x X.b (dk DX1_keep_0 12 rfl) (by decide) ?_
    refine lv_iadd X.x X.b (dk DX1_keep_0 13 rfl) ?_
    refine lv_bipush (v := 20) X.x X.b (dk DX1_keep_0 14 rfl) (by decide) ?_
    rw [show nI i + 1 = nI (i + 1) from nI_1 i]
    refine lv_icmp_ge (tgt := 46) X.x X.b (dk DX1_keep_0 15 rfl) (by decide) (fun c => ?_) (fun c => ?_)
    · have hi19 : i = 19 := by
        rcases Nat.lt_or_ge (i + 1) 20 with h | h
        · exact absurd c (nI_ge (a := i + 1) (b := 20) h (by decide))
        · omega
      subst hi19
      exact K H locs ls hH (lv_sub hl [0, 1, 2] rfl)
    · have hi19 : i < 19 := by
        rcases Nat.lt_or_ge (i + 1) 20 with h | h
        · omega
        · exact absurd (nI_le (a := 20) (b := i + 1) h (by omega)) c
      obtain ⟨a1, ha1⟩ := hocc (i + 1) (by omega)
      have hcell : va_up m (qh 0) (some (aQ G 4 20 (rotf fb i))) (qh 0) = some (aQ G 4 20 (rotf fb i)) := by simp [va_up]
      have hh2 := hh.up (e' := aQ G 4 20 (rotf fb i)) hRb.1 (hh.neC hRb.1)
      refine lv_aload_n X.x X.b (dk DX1_keep_0 16 rfl) rfl (lv_at hl 0 rfl) ?_
      refine ag_getR (t := 4) OX1 X hh2 hH 0 (by decide) rfl kF_X1_11 (dk DX1_keep_0 17 rfl) ?_
      refine lv_iload_n X.x X.b (dk DX1_keep_0 18 rfl) rfl (lv_at hl 3 rfl) ?_
      refine lv_aload_n X.x X.b (dk DX1_keep_0 19 rfl) rfl (lv_at hl 0 rfl) ?_
      refine ag_getR (t := 4) OX1 X hh2 hH 0 (by decide) rfl kF_X1_11 (dk DX1_keep_0 20 rfl) ?_
      refine lv_iload_n X.x X.b (dk DX1_keep_0 21 rfl) rfl (lv_at hl 3 rfl) ?_
      refine lv_iconst (v := 1) X.x X.b (dk DX1_keep_0 22 rfl) (by decide) ?_
      refine lv_iadd X.x X.b (dk DX1_keep_0 23 rfl) ?_
      rw [show nI i + 1 = nI (i + 1) from nI_1 i]
      refine mr_aald (t := 4) X hH rfl hcell (vp_in_nI (by omega) (by decide)) (dk DX1_keep_0 24 rfl) ?_
      rw [nI_clamp (by omega), show rotf fb i (i + 1) = some a1 by unfold rotf; rw [if_neg (by omega)]; exact ha1]
      obtain ⟨q1, st1, hq1, hA1⟩ := hRb.2.1 _ _ ha1
      have hA2 := hA1.up (e' := aQ G 4 20 (rotf fb i)) hRb.1 (hA1.neC hRb.1)
      refine mr_aast (t := 4) X hH rfl hcell (v := a1) (by rw [← hq1]; exact hA2.root) OX10.1 (vp_in_nI (by omega) (by decide)) (dk DX1_keep_0 25 rfl) (fun H locs hH => ?_)
      have hup : va_up (va_up m (qh 0) (some (aQ G 4 20 (rotf fb i)))) (qh 0) (some (aQ G 4 20 (va_up (rotf fb i) (nI i).toNatClampNeg (some a1)))) = va_up m (qh 0) (some (aQ G 4 20 (rotf fb (i + 1)))) := by
        rw [bx_uu, nI_clamp (by omega), ← ha1]
        congr 4
        funext j
        by_cases hj : j = i
        · subst hj; simp [va_up, rotf]
        · simp only [va_up, if_neg hj, rotf]
          by_cases hj2 : j < i
          · rw [if_pos hj2, if_pos (by omega)]
          · rw [if_neg hj2, if_neg (by omega)]
      rw [hup] at hH
      refine lv_iinc (v := nI (i + 1)) (lv' := [(3, .int (nI (i + 1))), (0, .ref (qh 4)), (1, .ref (qw 5)), (2, .ref a0)]) X.x X.b (dk DX1_keep_0 26 rfl) hl (k := 3) rfl (by rw [← nI_1]; rfl) (by decide) rfl (fun ls hl => ?_)
      replace hl : lv_has ls 4 [(0, .ref (qh 4)), (1, .ref (qw 5)), (2, .ref a0), (3, .int (nI (i + 1)))] := lv_sub hl [1, 2, 3, 0] rfl
      refine lv_goto (tgt := 18) X.x X.b (dk DX1_keep_0 27 rfl) (by decide) ?_
      exact ih (i + 1) (by omega) H locs ls hH hl
set_option maxHeartbeats 4000000 in
set_option maxRecDepth 100000 in
theorem c_X1_keep {l : Launch} {G : mG} {ow : Nat → Nat} {m : mM} {qh qw : Nat → Nat} {sw : OS} {fb fa : Nat → Option Nat} {bs as : List OS} (hw : At G ow m LX10 qw sw) (hS : Hst G ow m qh fb fa bs as) (hnb : ∀ j, fb j ≠ some (qw 5)) :
    cQ l G yX1_keep cX1_keep 4 none rm_X1_keep [.ref (qh 4), .ref (qw 5)] m (mQv G (fun m' => ∃ ow1 fb1, Hst G ow1 m' qh fb1 fa (pushB bs sw) [] ∧ HP G (fun _ => False) ow m qh fb fa ow1 m' fb1 fa)) := by
  refine mp_of (by decide +kernel) (Nat.le_of_ble_eq_true rfl) ?_
  intro p e s m9 below meth c X hr hlk hH hname ls hl
  replace hl : lv_has ls 4 [(0, .ref (qh 4)), (1, .ref (qw 5))] := hl
  obtain ⟨⟨sth, hh, hb1, ha1⟩, hRb, hRa, hHb, hHa, hne, hdis, hle⟩ := id hS
  refine lv_aload_n X.x X.b (dk DX1_keep_0 0 rfl) rfl (lv_at hl 0 rfl) ?_
  refine ag_getI OX1 X hh hH 2 (by decide) rfl kF_X1_18 (dk DX1_keep_0 1 rfl) ?_
  rw [hb1]
  refine lv_bipush (v := 20) X.x X.b (dk DX1_keep_0 2 rfl) (by decide) ?_
  refine lv_icmp_lt (tgt := 60) X.x X.b (dk DX1_keep_0 3 rfl) (by decide) (fun c => ?_) (fun c => ?_)
  · have hlen : bs.length < 20 := by
      rcases Nat.lt_or_ge bs.length 20 with h | h
      · exact h
      · exact absurd c (nI_nlt (a := bs.length) (b := 20) h (by omega))
    refine w_X1_keep_60 X hw hS hlen hnb ⟨by decide, by decide, by decide, by decide⟩ (fun m3 H locs ls hp hH hl => ?_) _ _ _ hH hl
    exact mr_vret X hr hlk hH (by obtain ⟨ow1, fb1, h1, h2⟩ := hp; exact ⟨ow1, fb1, by unfold pushB; rw [if_neg (by omega)]; exact h1, h2⟩) (dk DX1_keep_0 51 rfl)
  · have hlen : bs.length = 20 := by
      rcases Nat.lt_or_ge bs.length 20 with h | h
      · exact absurd (nI_lt (a := bs.length) (b := 20) h (by decide)) c
      · omega
    have hocc : ∀ j, j < 20 → ∃ a, fb j = some a := fun j hj => by
      obtain ⟨y, hy⟩ : ∃ y, bs[j]? = some y := ⟨bs[j]'(by omega), List.getElem?_eq_getElem (by omega)⟩
      obtain ⟨a, ha, -⟩ := hHb j y hy
      exact ⟨a, ha⟩
    obtain ⟨a0, ha0⟩ := hocc 0 (by omega)
    refine lv_aload_n X.x X.b (dk DX1_keep_0 4 rfl) rfl (lv_at hl 0 rfl) ?_
    refine ag_getR (t := 4) OX1 X hh hH 0 (by decide) rfl kF_X1_11 (dk DX1_keep_0 5 rfl) ?_
    refine lv_iconst (v := 0) X.x X.b (dk DX1_keep_0 6 rfl) (by decide) ?_
    refine mr_aald (t := 4) X hH rfl hRb.1.1 (vp_in_nI (n := 0) (by decide) (by decide)) (dk DX1_keep_0 7 rfl) ?_
    rw [show (0 : Int32).toNatClampNeg = 0 from rfl, ha0]
    refine lv_astore_n (lv' := [(2, .ref a0), (0, .ref (qh 4)), (1, .ref (qw 5))]) X.x X.b (dk DX1_keep_0 8 rfl) rfl hl (by decide) rfl (fun ls hl => ?_)
    replace hl : lv_has ls 4 [(0, .ref (qh 4)), (1, .ref (qw 5)), (2, .ref a0)] := lv_sub hl [1, 2, 0] rfl
    refine lv_iconst (v := 0) X.x X.b (dk DX1_keep_0 9 rfl) (by decide) ?_
    refine lv_istore_n (lv' := [(3, .int 0), (0, .ref (qh 4)), (1, .ref (qw 5)), (2, .ref a0)]) X.x X.b (dk DX1_keep_0 10 rfl) rfl hl (by decide) rfl (fun ls hl => ?_)
    replace hl : lv_has ls 4 [(0, .ref (qh 4)), (1, .ref (qw 5)), (2, .ref a0), (3, .int 0)] := lv_sub hl [1, 2, 3, 0] rfl
    have hrot0 : va_up m (qh 0) (some (aQ G 4 20 (rotf fb 0))) = m := by
      funext z
      by_cases h : z = qh 0
      · subst h; simp only [va_up, if_pos]; exact hRb.1.1.symm
      · simp [va_up, h]
    refine w_X1_keep_18 X hh hRb hocc (fun H locs ls hH hl => ?_) 19 0 rfl _ _ _ (by rw [hrot0]; exact hH) hl
    have hcell : va_up m (qh 0) (some (aQ G 4 20 (rotf fb 19))) (qh 0) = some (aQ G 4 20 (rotf fb 19)) := by simp [va_up]
    have hh2 := hh.up (e' := aQ G 4 20 (rotf fb 19)) hRb.1 (hh.neC hRb.1)
    obtain ⟨q1, st1, hq1, hA1⟩ := hRb.2.1 _ _ ha0
    have hA2 := hA1.up (e' := aQ G 4 20 (rotf fb 19)) hRb.1 (hA1.neC hRb.1)
    refine lv_aload_n X.x X.b (dk DX1_keep_0 28 rfl) rfl (lv_at hl 0 rfl) ?_
    refine ag_getR (t := 4) OX1 X hh2 hH 0 (by decide) rfl kF_X1_11 (dk DX1_keep_0 29 rfl) ?_
    refine lv_bipush (v := 19) X.x X.b (dk DX1_keep_0 30 rfl) (by decide) ?_
    refine lv_aload_n X.x X.b (dk DX1_keep_0 31 rfl) rfl (lv_at hl 2 rfl) ?_
    refine mr_aast (t := 4) X hH rfl hcell (v := a0) (by rw [← hq1]; exact hA2.root) OX10.1 (vp_in_nI (n := 19) (by decide) (by decide)) (dk DX1_keep_0 32 rfl) (fun H locs hH => ?_)
    rw [bx_uu, show (19 : Int32).toNatClampNeg = 19 from rfl, ← ha0] at hH
    replace hH : mH G (va_up m (qh 0) (some (aQ G 4 20 (rotF fb)))) s.heap H locs := hH
    have hF1 := hRb.1.fr (e' := aQ G 4 20 (rotF fb))
    have hh3 := hh.up (e' := aQ G 4 20 (rotF fb)) hRb.1 (hh.neC hRb.1)
    refine lv_aload_n X.x X.b (dk DX1_keep_0 33 rfl) rfl (lv_at hl 0 rfl) ?_
    refine lv_bipush (v := 19) X.x X.b (dk DX1_keep_0 34 rfl) (by decide) ?_
    refine ag_putI OX1 X hh3 hH 2 (by decide) rfl kF_X1_18 rfl rfl rfl (dk DX1_keep_0 35 rfl) (fun H locs hH => ?_)
    obtain ⟨m2, hm2⟩ : ∃ z, z = oset LX1 G qh (oI sth 2 19) (va_up m (qh 0) (some (aQ G 4 20 (rotF fb)))) := ⟨_, rfl⟩
    rw [← hm2] at hH
    have hh4 : At G ow m2 LX1 qh (oI sth 2 19) := by rw [hm2]; exact hh3.self
    have hF2 : Fr (fun r => r = qh 4) ow (va_up m (qh 0) (some (aQ G 4 20 (rotF fb)))) ow m2 := by rw [hm2]; exact hh3.fr
    have hF : Fr (fun r => r = qh 0 ∨ r = qh 4) ow m ow m2 := (hF1.mono (fun _ z => Or.inl z)).tr (hF2.mono (fun _ z => Or.inr z))
    have hfbr : ∀ {i a}, fb i = some a → a ≠ qh 0 ∧ a ≠ qh 4 := fun hi => ⟨(hRb.2.1 _ _ hi).neC hRb.1, (hRb.2.1 _ _ hi).neAt hh (by decide)⟩
    have hfar : ∀ {i a}, fa i = some a → a ≠ qh 0 ∧ a ≠ qh 4 := fun hi => ⟨(hRa.2.1 _ _ hi).neC hRb.1, (hRa.2.1 _ _ hi).neAt hh (by decide)⟩
    have hS2 : Hst G ow m2 qh (rotF fb) fa bs.tail as := by
      refine ⟨⟨_, hh4, ?_, ha1⟩, ⟨hF2.c1 (fun z => hh.neC hRb.1 z.symm) hRb.1.self, fun i a hi => ?_, rotF_inj hRb.2.2⟩, hRa.fr hF (fun z => z.elim (fun z => hne z.symm) (fun z => hh.neC hRa.1 z.symm)) (fun i a hi z => z.elim (hfar hi).1 (hfar hi).2), fun i y hy => ?_, hHa.fr hF (fun i a hi z => z.elim (hfar hi).1 (hfar hi).2), hne, fun i j a hi hj => ?_, ?_⟩
      · show (19 : Int32) = nI bs.tail.length
        rw [List.length_tail, hlen]; rfl
      · obtain ⟨k, hk, -⟩ := rotF_of fb i
        rw [hk] at hi
        exact (hRb.2.1 k a hi).fr hF (fun z => z.elim (hfbr hi).1 (hfbr hi).2)
      · rw [List.getElem?_tail] at hy
        obtain ⟨a, ha, hwa⟩ := hHb (i + 1) y hy
        have hi : i < 19 := by have := (List.getElem?_eq_some_iff.mp hy).1; omega
        exact ⟨a, by rw [rotF_at, if_pos hi]; exact ha, hwa.fr hF (fun z => z.elim (hfbr ha).1 (hfbr ha).2)⟩
      · obtain ⟨k, hk, -⟩ := rotF_of fb i
        rw [hk] at hi
        exact hdis k j a hi hj
      · rw [List.length_tail]; omega
    have hP2 : HP G (fun _ => False) ow m qh fb fa ow m2 (rotF fb) fa := by
      refine ⟨(hF.mono (fun a z => Or.inl (z.elim (fun z => Or.inr (Or.inl z)) Or.inl))).A, fun a z => Or.inl ?_⟩
      rcases z with z | z | z | ⟨i, z⟩ | z
      · exact Or.inl z
      · exact Or.inr (Or.inl z)
      · exact Or.inr (Or.inr (Or.inl z))
      · obtain ⟨k, hk, -⟩ := rotF_of fb i
        rw [hk] at z
        exact Or.inr (Or.inr (Or.inr (Or.inl ⟨k, z⟩)))
      · exact Or.inr (Or.inr (Or.inr (Or.inr z)))
    refine w_X1_keep_60 X (hF.at (fun z => z.elim (fun z => hw.neC hRb.1 z) (fun z => hw.ne hh (by decide) z)) hw) hS2 (by rw [List.length_tail]; omega) (fun j hj => by
      obtain ⟨k, hk, -⟩ := rotF_of fb j
      rw [hk] at hj
      exact hnb k hj) ⟨by decide, by decide, by decide, by decide⟩ (fun m3 H locs ls hp hH hl => ?_) _ _ _ hH (lv_sub hl [0, 1] rfl)
    exact mr_vret X hr hlk hH (by obtain ⟨ow1, fb1, h1, h2⟩ := hp; exact ⟨ow1, fb1, by unfold pushB; rw [if_pos hlen]; exact h1, hP2.tr h2⟩) (dk DX1_keep_0 51 rfl)
