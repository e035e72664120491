abbrev rm_X1_goBack : Room := { frames := 3, cells := 4, slots := 197, locals := 84 }
abbrev rm_X1_goOn : Room := { frames := 3, cells := 4, slots := 197, locals := 84 }
set_option maxHeartbeats 4000000 in
set_option maxRecDepth 100000 in
theorem c_X1_goBack {l : Launch} {G : mG} {ow : Nat → Nat} {m : mM} {qh qw : Nat → Nat} {sw : OS} {fb fa : Nat → Option Nat} {bs as : List OS} (hw : At G ow m LX10 qw sw) (hS : Hst G ow m qh fb fa bs as) (hnfb : ∀ j, fb j ≠ some (qw 5)) (hnfa : ∀ j, fa j ≠ some (qw 5)) :
    cQ l G yX1_goBack cX1_goBack 2 (some FieldType.boolean) rm_X1_goBack [.ref (qh 4), .ref (qw 5)] m (mQi G (fun r m' => (bs = [] ∧ r = 0 ∧ m' = m) ∨ (∃ s0 y, bs = s0 ++ [y] ∧ r = 1 ∧ ∃ ow1 fd1 x, Hst G ow1 m' qh fb fd1 s0 (as ++ [sw]) ∧ At G ow1 m' LX10 qw x ∧ sameW x y ∧ HP G (fun r => r = qw 5) ow m qh fb fa ow1 m' fb fd1))) := by
  refine mp_of (by decide +kernel) (Nat.le_of_ble_eq_true rfl) ?_
  intro p e s m9 below meth c X hr hlk hH hname ls hl
  replace hl : lv_has ls 2 [(0, .ref (qh 4)), (1, .ref (qw 5))] := hl
  obtain ⟨⟨sth, hh, hb1, ha1⟩, hRb, hRa, hHb, hHa, hne, hdis, hle⟩ := id hS
  refine lv_aload_n X.x X.b (dk DX1_goBack_0 0 rfl) rfl (lv_at hl 0 rfl) ?_
  refine ag_getI OX1 X hh hH 2 (by decide) rfl kF_X1_18 (dk DX1_goBack_0 1 rfl) ?_
  rw [hb1]
  refine lv_if_gt (tgt := 9) X.x X.b (dk DX1_goBack_0 2 rfl) (by decide) (fun c => ?_) (fun c => ?_)
  · have h0 : bs ≠ [] := by
      intro h
      rw [h] at c
      exact absurd c (by decide)
    obtain ⟨s0, y, hsy⟩ : ∃ s0 y, bs = s0 ++ [y] := ⟨bs.dropLast, bs.getLast h0, (List.dropLast_concat_getLast h0).symm⟩
    subst hsy
    rw [List.length_append] at hle
    replace hle : s0.length + 1 + as.length ≤ 20 := hle
    replace hb1 : sth.1 2 = nI (s0.length + 1) := by rw [hb1, List.length_append]; rfl
    refine lv_aload_n X.x X.b (dk DX1_goBack_0 5 rfl) rfl (lv_at hl 0 rfl) ?_
    refine ag_getR (t := 4) OX1 X hh hH 1 (by decide) rfl kF_X1_15 (dk DX1_goBack_0 6 rfl) ?_
    refine lv_aload_n X.x X.b (dk DX1_goBack_0 7 rfl) rfl (lv_at hl 0 rfl) ?_
    refine ag_getI OX1 X hh hH 3 (by decide) rfl kF_X1_22 (dk DX1_goBack_0 8 rfl) ?_
    rw [ha1]
    refine lv_aload_n X.x X.b (dk DX1_goBack_0 9 rfl) rfl (lv_at hl 1 rfl) ?_
    refine mr_cv hH (mr_runS (As := [.ref (qh 1), .int (nI as.length), .ref (qw 5)]) (rest := []) X hH (c_storeA hw hRa hnfa (by omega)) kM_X1_25 kT_X1_store kN_X1 kC_X1_store hd_X1_store ⟨Nat.le_of_ble_eq_true rfl, Nat.le_of_ble_eq_true rfl⟩ rfl hl.1 (Nat.le_of_ble_eq_true rfl) (dk DX1_goBack_0 10 rfl) ⟨Nat.le_of_ble_eq_true rfl, Nat.le_of_ble_eq_true rfl⟩) (fun m1 H locs hp hH => ?_)
    obtain ⟨ow1, fd1, hRd1, hf1, ⟨an, han, hwn, hor⟩, hF1⟩ := hp
    have hh1 : At G ow1 m1 LX1 qh sth := hF1.at (fun z => z.elim (fun z => hh.neC hRa.1 z) (fun z => (hRa.2.1 _ _ z).neAt hh (by decide) rfl)) hh
    have hw1 : At G ow1 m1 LX10 qw sw := hF1.at (fun z => z.elim (fun z => hw.neC hRa.1 z) (fun z => hnfa _ z)) hw
    refine lv_aload_n X.x X.b (dk DX1_goBack_0 11 rfl) rfl (lv_at hl 0 rfl) ?_
    refine lv_dup X.x X.b (dk DX1_goBack_0 12 rfl) rfl ?_
    refine ag_getI OX1 X hh1 hH 3 (by decide) rfl kF_X1_22 (dk DX1_goBack_0 13 rfl) ?_
    rw [ha1]
    refine lv_iconst (v := 1) X.x X.b (dk DX1_goBack_0 14 rfl) (by decide) ?_
    refine lv_iadd X.x X.b (dk DX1_goBack_0 15 rfl) ?_
    refine ag_putI OX1 X hh1 hH 3 (by decide) rfl kF_X1_22 rfl rfl rfl (dk DX1_goBack_0 16 rfl) (fun H locs hH => ?_)
    obtain ⟨m2, hm2⟩ : ∃ z, z = oset LX1 G qh (oI sth 3 (nI as.length + 1)) m1 := ⟨_, rfl⟩
    rw [← hm2] at hH
    have hh2 : At G ow1 m2 LX1 qh (oI sth 3 (nI as.length + 1)) := by rw [hm2]; exact hh1.self
    have hF2 : Fr (fun r => r = qh 4) ow1 m1 ow1 m2 := by rw [hm2]; exact hh1.fr
    have hs2 : (oI sth 3 (nI as.length + 1)).1 2 = nI (s0.length + 1) := hb1
    refine lv_aload_n X.x X.b (dk DX1_goBack_0 17 rfl) rfl (lv_at hl 0 rfl) ?_
    refine lv_dup X.x X.b (dk DX1_goBack_0 18 rfl) rfl ?_
    refine ag_getI OX1 X hh2 hH 2 (by decide) rfl kF_X1_18 (dk DX1_goBack_0 19 rfl) ?_
    rw [hs2]
    refine lv_iconst (v := 1) X.x X.b (dk DX1_goBack_0 20 rfl) (by decide) ?_
    refine lv_isub X.x X.b (dk DX1_goBack_0 21 rfl) ?_
    rw [nI_pred]
    refine ag_putI OX1 X hh2 hH 2 (by decide) rfl kF_X1_18 rfl rfl rfl (dk DX1_goBack_0 22 rfl) (fun H locs hH => ?_)
    obtain ⟨m3, hm3⟩ : ∃ z, z = oset LX1 G qh (oI (oI sth 3 (nI as.length + 1)) 2 (nI s0.length)) m2 := ⟨_, rfl⟩
    rw [← hm3] at hH
    have hh3 : At G ow1 m3 LX1 qh (oI (oI sth 3 (nI as.length + 1)) 2 (nI s0.length)) := by rw [hm3]; exact hh2.self
    have hF3 : Fr (fun r => r = qh 4) ow1 m2 ow1 m3 := by rw [hm3]; exact hh2.fr
    have hs3 : (oI (oI sth 3 (nI as.length + 1)) 2 (nI s0.length)).1 2 = nI s0.length := rfl
    have hF23 := hF2.tr hF3
    have hw3 : At G ow1 m3 LX10 qw sw := hF23.at (fun z => hw1.ne hh1 (by decide) z) hw1
    obtain ⟨ay, hay, qy, sy, hqy, hAy, hsy⟩ := hHb s0.length y (by simp)
    have hFs : Fr (fun r => (r = qh 1 ∨ fa as.length = some r) ∨ r = qh 4) ow m ow1 m3 := (hF1.mono (fun _ z => Or.inl z)).tr (hF23.mono (fun _ z => Or.inr z))
    have hsS : ∀ {i a}, fb i = some a → ¬ ((a = qh 1 ∨ fa as.length = some a) ∨ a = qh 4) := fun hi z => z.elim (fun z => z.elim (fun z => (hRb.2.1 _ _ hi).neC hRa.1 z) (fun z => hdis _ _ _ hi z)) (fun z => (hRb.2.1 _ _ hi).neAt hh (by decide) z)
    have hrs : ¬ ((qh 0 = qh 1 ∨ fa as.length = some (qh 0)) ∨ qh 0 = qh 4) := fun z => z.elim (fun z => z.elim (fun z => hne z) (fun z => (hRa.2.1 _ _ z).neC hRb.1 rfl)) (fun z => hh.neC hRb.1 z.symm)
    have hRs3 := hRb.fr hFs hrs (fun i a hi => hsS hi)
    subst hqy
    have hAy3 := hFs.at (hsS hay) hAy
    refine lv_aload_n X.x X.b (dk DX1_goBack_0 23 rfl) rfl (lv_at hl 0 rfl) ?_
    refine ag_getR (t := 4) OX1 X hh3 hH 0 (by decide) rfl kF_X1_11 (dk DX1_goBack_0 24 rfl) ?_
    refine lv_aload_n X.x X.b (dk DX1_goBack_0 25 rfl) rfl (lv_at hl 0 rfl) ?_
    refine ag_getI OX1 X hh3 hH 2 (by decide) rfl kF_X1_18 (dk DX1_goBack_0 26 rfl) ?_
    rw [hs3]
    refine lv_aload_n X.x X.b (dk DX1_goBack_0 27 rfl) rfl (lv_at hl 1 rfl) ?_
    refine mr_cv hH (mr_runS (As := [.ref (qh 0), .int (nI s0.length), .ref (qw 5)]) (rest := []) X hH (c_X1_fetch (n := 0) hw3 hAy3 (fun z => hnfb _ (by rw [z]; exact hay)) hRs3.1.1 (by omega) hay) kM_X1_29 kT_X1_fetch kN_X1 kC_X1_fetch hd_X1_fetch ⟨Nat.le_of_ble_eq_true rfl, Nat.le_of_ble_eq_true rfl⟩ rfl hl.1 (Nat.le_of_ble_eq_true rfl) (dk DX1_goBack_0 28 rfl) ⟨Nat.le_of_ble_eq_true rfl, Nat.le_of_ble_eq_true rfl⟩) (fun m4 H locs hp hH => ?_)
    obtain ⟨x, hx, hm4⟩ := hp
    have hw4 : At G ow1 m4 LX10 qw x := by rw [hm4]; exact hw3.self
    have hF4 : Fr (fun r => r = qw 5) ow1 m3 ow1 m4 := by rw [hm4]; exact hw3.fr
    refine lv_iconst (v := 1) X.x X.b (dk DX1_goBack_0 29 rfl) (by decide) ?_
    have hwd : ∀ {i a}, fd1 i = some a → a ≠ qw 5 := fun {i a} hi z => by
      by_cases hib : i = as.length
      · subst hib
        rw [han] at hi
        cases hi
        rcases hor with h | h
        · exact hnfa _ (by rw [h, z])
        · have := hw.root; rw [show qw LX10.2.1 = qw 5 from rfl, ← z, h.2] at this; cases this
      · rw [hf1 i hib] at hi
        exact hnfa i (by rw [hi, z])
    have hRd3 : Row G ow1 m3 20 (qh 1) fd1 := hRd1.fr hF23 (fun z => hh1.neC hRd1.1 z.symm) (fun i a hi z => (hRd1.2.1 i a hi).neAt hh1 (by decide) z)
    have hHd3 : Holds G ow1 m3 fd1 (as ++ [sw]) := by
      intro i y hy
      rcases Nat.lt_or_ge i as.length with h | h
      · rw [List.getElem?_append_left h] at hy
        obtain ⟨a, ha, hwa⟩ := hHa i y hy
        refine ⟨a, by rw [hf1 i (by omega)]; exact ha, hwa.fr hFs (fun z => z.elim (fun z => z.elim (fun z => hwa.any.neC hRa.1 z) (fun z => ?_)) (fun z => hwa.any.neAt hh (by decide) z))⟩
        have := hRa.2.2 _ _ _ z ha; omega
      · rw [List.getElem?_append_right h] at hy
        have hi : i = as.length := by
          have := (List.getElem?_eq_some_iff.mp hy).1; simp at this; omega
        subst hi
        simp at hy
        subst hy
        exact ⟨an, han, hwn.fr hF23 (fun z => hwn.any.neAt hh1 (by decide) z)⟩
    have hHs3 : Holds G ow1 m3 fb s0 := fun i y hy => by
      obtain ⟨a, ha, hwa⟩ := hHb i y (by rw [List.getElem?_append_left (List.getElem?_eq_some_iff.mp hy).1]; exact hy)
      exact ⟨a, ha, hwa.fr hFs (hsS ha)⟩
    have hdis3 : ∀ i j a, fd1 i = some a → fb j ≠ some a := by
      intro i j a hi hj
      by_cases hib : i = as.length
      · subst hib
        rw [han] at hi
        cases hi
        rcases hor with z | ⟨-, z⟩
        · exact hdis _ _ _ hj z
        · exact (hRb.2.1 j _ hj).ne0 z
      · rw [hf1 i hib] at hi
        exact hdis _ _ _ hj hi
    have hfin : Hst G ow1 m4 qh fb fd1 s0 (as ++ [sw]) := ⟨⟨_, hF4.at (fun z => hw3.ne hh3 (by decide) z.symm) hh3, rfl, (show nI as.length + 1 = nI (as ++ [sw]).length by rw [List.length_append, nI_1]; rfl)⟩, hRs3.fr hF4 (fun z => hw3.neC hRs3.1 z.symm) (fun i a hi z => hnfb i (by rw [hi, z])), hRd3.fr hF4 (fun z => hw3.neC hRd3.1 z.symm) (fun i a hi => hwd hi), hHs3.fr hF4 (fun i a hi z => hnfb i (by rw [hi, z])), hHd3.fr hF4 (fun i a hi => hwd hi), hne, fun i j a hi hj => hdis3 j i a hj hi, by simp only [List.length_append, List.length_cons, List.length_nil]; omega⟩
    have hP : HP G (fun r => r = qw 5) ow m qh fb fa ow1 m4 fb fd1 := by
      refine ⟨((hFs.mono (fun r z => ?_)).tr (hF4.mono (fun r z => Or.inr z))).A, fun a ha => ?_⟩
      · rcases z with (z | z) | z
        · exact Or.inl (Or.inr <| Or.inr <| Or.inl z)
        · exact Or.inl (Or.inr (Or.inr (Or.inr (Or.inr ⟨_, z⟩))))
        · exact Or.inl (Or.inl z)
      · rcases ha with z | z | z | z | z
        · exact Or.inl (Or.inl z)
        · exact Or.inl (Or.inr (Or.inl z))
        · exact Or.inl (Or.inr (Or.inr (Or.inl z)))
        · exact Or.inl (Or.inr (Or.inr (Or.inr (Or.inl z))))
        · obtain ⟨i, z⟩ := z
          by_cases hib : i = as.length
          · subst hib
            rw [han] at z
            cases z
            rcases hor with z | z
            · exact Or.inl (Or.inr (Or.inr (Or.inr (Or.inr ⟨_, z⟩))))
            · exact Or.inr z.2
          · rw [hf1 i hib] at z
            exact Or.inl (Or.inr (Or.inr (Or.inr (Or.inr ⟨_, z⟩))))
    exact mr_zret X hr hlk hH rfl (Or.inr ⟨s0, y, rfl, rfl, ow1, fd1, x, hfin, hw4, hx.tr hsy, hP⟩) (dk DX1_goBack_0 30 rfl)
  · have h0 : bs = [] := by
      cases bs with
      | nil => rfl
      | cons y r => exact absurd (nI_lt (a := 0) (b := (y :: r).length) (by simp) (by simp at hle ⊢; omega)) c
    refine lv_iconst (v := 0) X.x X.b (dk DX1_goBack_0 3 rfl) (by decide) ?_
    exact W.widen (k := 4) (n := 197) (Nat.zero_le _) (Nat.zero_le _) (mr_zret X hr hlk hH rfl (Or.inl ⟨h0, rfl, rfl⟩) (dk DX1_goBack_0 4 rfl))
set_option maxHeartbeats 4000000 in
set_option maxRecDepth 100000 in
theorem c_X1_goOn {l : Launch} {G : mG} {ow : Nat → Nat} {m : mM} {qh qw : Nat → Nat} {sw : OS} {fb fa : Nat → Option Nat} {bs as : List OS} (hw : At G ow m LX10 qw sw) (hS : Hst G ow m qh fb fa bs as) (hnfb : ∀ j, fb j ≠ some (qw 5)) (hnfa : ∀ j, fa j ≠ some (qw 5)) :
    cQ l G yX1_goOn cX1_goOn 2 (some FieldType.boolean) rm_X1_goOn [.ref (qh 4), .ref (qw 5)] m (mQi G (fun r m' => (as = [] ∧ r = 0 ∧ m' = m) ∨ (∃ s0 y, as = s0 ++ [y] ∧ r = 1 ∧ ∃ ow1 fd1 x, Hst G ow1 m' qh fd1 fa (bs ++ [sw]) s0 ∧ At G ow1 m' LX10 qw x ∧ sameW x y ∧ HP G (fun r => r = qw 5) ow m qh fb fa ow1 m' fd1 fa))) := by
  refine mp_of (by decide +kernel) (Nat.le_of_ble_eq_true rfl) ?_
  intro p e s m9 below meth c X hr hlk hH hname ls hl
  replace hl : lv_has ls 2 [(0, .ref (qh 4)), (1, .ref (qw 5))] := hl
  obtain ⟨⟨sth, hh, hb1, ha1⟩, hRb, hRa, hHb, hHa, hne, hdis, hle⟩ := id hS
  refine lv_aload_n X.x X.b (dk DX1_goOn_0 0 rfl) rfl (lv_at hl 0 rfl) ?_
  refine ag_getI OX1 X hh hH 3 (by decide) rfl kF_X1_22 (dk DX1_goOn_0 1 rfl) ?_
  rw [ha1]
  refine lv_if_gt (tgt := 9) X.x X.b (dk DX1_goOn_0 2 rfl) (by decide) (fun c => ?_) (fun c => ?_)
  · have h0 : as ≠ [] := by
      intro h
      rw [h] at c
      exact absurd c (by decide)
    obtain ⟨s0, y, hsy⟩ : ∃ s0 y, as = s0 ++ [y] := ⟨as.dropLast, as.getLast h0, (List.dropLast_concat_getLast h0).symm⟩
    subst hsy
    rw [List.length_append] at hle
    replace hle : bs.length + (s0.length + 1) ≤ 20 := hle
    replace ha1 : sth.1 3 = nI (s0.length + 1) := by rw [ha1, List.length_append]; rfl
    refine lv_aload_n X.x X.b (dk DX1_goOn_0 5 rfl) rfl (lv_at hl 0 rfl) ?_
    refine ag_getR (t := 4) OX1 X hh hH 0 (by decide) rfl kF_X1_11 (dk DX1_goOn_0 6 rfl) ?_
    refine lv_aload_n X.x X.b (dk DX1_goOn_0 7 rfl) rfl (lv_at hl 0 rfl) ?_
    refine ag_getI OX1 X hh hH 2 (by decide) rfl kF_X1_18 (dk DX1_goOn_0 8 rfl) ?_
    rw [hb1]
    refine lv_aload_n X.x X.b (dk DX1_goOn_0 9 rfl) rfl (lv_at hl 1 rfl) ?_
    refine mr_cv hH (mr_runS (As := [.ref (qh 0), .int (nI bs.length), .ref (qw 5)]) (rest := []) X hH (c_storeA hw hRb hnfb (by omega)) kM_X1_25 kT_X1_store kN_X1 kC_X1_store hd_X1_store ⟨Nat.le_of_ble_eq_true rfl, Nat.le_of_ble_eq_true rfl⟩ rfl hl.1 (Nat.le_of_ble_eq_true rfl) (dk DX1_goOn_0 10 rfl) ⟨Nat.le_of_ble_eq_true rfl, Nat.le_of_ble_eq_true rfl⟩) (fun m1 H locs hp hH => ?_)
    obtain ⟨ow1, fd1, hRd1, hf1, ⟨an, han, hwn, hor⟩, hF1⟩ := hp
    have hh1 : At G ow1 m1 LX1 qh sth := hF1.at (fun z => z.elim (fun z => hh.neC hRb.1 z) (fun z => (hRb.2.1 _ _ z).neAt hh (by decide) rfl)) hh
    have hw1 : At G ow1 m1 LX10 qw sw := hF1.at (fun z => z.elim (fun z => hw.neC hRb.1 z) (fun z => hnfb _ z)) hw
    refine lv_aload_n X.x X.b (dk DX1_goOn_0 11 rfl) rfl (lv_at hl 0 rfl) ?_
    refine lv_dup X.x X.b (dk DX1_goOn_0 12 rfl) rfl ?_
    refine ag_getI OX1 X hh1 hH 2 (by decide) rfl kF_X1_18 (dk DX1_goOn_0 13 rfl) ?_
    rw [hb1]
    refine lv_iconst (v := 1) X.x X.b (dk DX1_goOn_0 14 rfl) (by decide) ?_
    refine lv_iadd X.x X.b (dk DX1_goOn_0 15 rfl) ?_
    refine ag_putI OX1 X hh1 hH 2 (by decide) rfl kF_X1_18 rfl rfl rfl (dk DX1_goOn_0 16 rfl) (fun H locs hH => ?_)
    obtain ⟨m2, hm2⟩ : ∃ z, z = oset LX1 G qh (oI sth 2 (nI bs.length + 1)) m1 := ⟨_, rfl⟩
    rw [← hm2] at hH
    have hh2 : At G ow1 m2 LX1 qh (oI sth 2 (nI bs.length + 1)) := by rw [hm2]; exact hh1.self
    have hF2 : Fr (fun r => r = qh 4) ow1 m1 ow1 m2 := by rw [hm2]; exact hh1.fr
    have hs2 : (oI sth 2 (nI bs.length + 1)).1 3 = nI (s0.length + 1) := ha1
    refine lv_aload_n X.x X.b (dk DX1_goOn_0 17 rfl) rfl (lv_at hl 0 rfl) ?_
    refine lv_dup X.x X.b (dk DX1_goOn_0 18 rfl) rfl ?_
    refine ag_getI OX1 X hh2 hH 3 (by decide) rfl kF_X1_22 (dk DX1_goOn_0 19 rfl) ?_
    rw [hs2]
    refine lv_iconst (v := 1) X.x X.b (dk DX1_goOn_0 20 rfl) (by decide) ?_
    refine lv_isub X.x X.b (dk DX1_goOn_0 21 rfl) ?_
    rw [nI_pred]
    refine ag_putI OX1 X hh2 hH 3 (by decide) rfl kF_X1_22 rfl rfl rfl (dk DX1_goOn_0 22 rfl) (fun H locs hH => ?_)
    obtain ⟨m3, hm3⟩ : ∃ z, z = oset LX1 G qh (oI (oI sth 2 (nI bs.length + 1)) 3 (nI s0.length)) m2 := ⟨_, rfl⟩
    rw [← hm3] at hH
    have hh3 : At G ow1 m3 LX1 qh (oI (oI sth 2 (nI bs.length + 1)) 3 (nI s0.length)) := by rw [hm3]; exact hh2.self
    have hF3 : Fr (fun r => r = qh 4) ow1 m2 ow1 m3 := by rw [hm3]; exact hh2.fr
    have hs3 : (oI (oI sth 2 (nI bs.length + 1)) 3 (nI s0.length)).1 3 = nI s0.length := rfl
    have hF23 := hF2.tr hF3
    have hw3 : At G ow1 m3 LX10 qw sw := hF23.at (fun z => hw1.ne hh1 (by decide) z) hw1
    obtain ⟨ay, hay, qy, sy, hqy, hAy, hsy⟩ := hHa s0.length y (by simp)
    have hFs : Fr (fun r => (r = qh 0 ∨ fb bs.length = some r) ∨ r = qh 4) ow m ow1 m3 := (hF1.mono (fun _ z => Or.inl z)).tr (hF23.mono (fun _ z => Or.inr z))
    have hsS : ∀ {i a}, fa i = some a → ¬ ((a = qh 0 ∨ fb bs.length = some a) ∨ a = qh 4) := fun hi z => z.elim (fun z => z.elim (fun z => (hRa.2.1 _ _ hi).neC hRb.1 z) (fun z => hdis _ _ _ z hi)) (fun z => (hRa.2.1 _ _ hi).neAt hh (by decide) z)
    have hrs : ¬ ((qh 1 = qh 0 ∨ fb bs.length = some (qh 1)) ∨ qh 1 = qh 4) := fun z => z.elim (fun z => z.elim (fun z => hne z.symm) (fun z => (hRb.2.1 _ _ z).neC hRa.1 rfl)) (fun z => hh.neC hRa.1 z.symm)
    have hRs3 := hRa.fr hFs hrs (fun i a hi => hsS hi)
    subst hqy
    have hAy3 := hFs.at (hsS hay) hAy
    refine lv_aload_n X.x X.b (dk DX1_goOn_0 23 rfl) rfl (lv_at hl 0 rfl) ?_
    refine ag_getR (t := 4) OX1 X hh3 hH 1 (by decide) rfl kF_X1_15 (dk DX1_goOn_0 24 rfl) ?_
    refine lv_aload_n X.x X.b (dk DX1_goOn_0 25 rfl) rfl (lv_at hl 0 rfl) ?_
    refine ag_getI OX1 X hh3 hH 3 (by decide) rfl kF_X1_22 (dk DX1_goOn_0 26 rfl) ?_
    rw [hs3]
    refine lv_aload_n X.x X.b (dk DX1_goOn_0 27 rfl) rfl (lv_at hl 1 rfl) ?_
    refine mr_cv hH (mr_runS (As := [.ref (qh 1), .int (nI s0.length), .ref (qw 5)]) (rest := []) X hH (c_X1_fetch (n := 0) hw3 hAy3 (fun z => hnfa _ (by rw [z]; exact hay)) hRs3.1.1 (by omega) hay) kM_X1_29 kT_X1_fetch kN_X1 kC_X1_fetch hd_X1_fetch ⟨Nat.le_of_ble_eq_true rfl, Nat.le_of_ble_eq_true rfl⟩ rfl hl.1 (Nat.le_of_ble_eq_true rfl) (dk DX1_goOn_0 28 rfl) ⟨Nat.le_of_ble_eq_true rfl, Nat.le_of_ble_eq_true rfl⟩) (fun m4 H locs hp hH => ?_)
    obtain ⟨x, hx, hm4⟩ := hp
    have hw4 : At G ow1 m4 LX10 qw x := by rw [hm4]; exact hw3.self
    have hF4 : Fr (fun r => r = qw 5) ow1 m3 ow1 m4 := by rw [hm4]; exact hw3.fr
    refine lv_iconst (v := 1) X.x X.b (dk DX1_goOn_0 29 rfl) (by decide) ?_
    have hwd : ∀ {i a}, fd1 i = some a → a ≠ qw 5 := fun {i a} hi z => by
      by_cases hib : i = bs.length
      · subst hib
        rw [han] at hi
        cases hi
        rcases hor with h | h
        · exact hnfb _ (by rw [h, z])
        · have := hw.root; rw [show qw LX10.2.1 = qw 5 from rfl, ← z, h.2] at this; cases this
      · rw [hf1 i hib] at hi
        exact hnfb i (by rw [hi, z])
    have hRd3 : Row G ow1 m3 20 (qh 0) fd1 := hRd1.fr hF23 (fun z => hh1.neC hRd1.1 z.symm) (fun i a hi z => (hRd1.2.1 i a hi).neAt hh1 (by decide) z)
    have hHd3 : Holds G ow1 m3 fd1 (bs ++ [sw]) := by
      intro i y hy
      rcases Nat.lt_or_ge i bs.length with h | h
      · rw [List.getElem?_append_left h] at hy
        obtain ⟨a, ha, hwa⟩ := hHb i y hy
        refine ⟨a, by rw [hf1 i (by omega)]; exact ha, hwa.fr hFs (fun z => z.elim (fun z => z.elim (fun z => hwa.any.neC hRb.1 z) (fun z => ?_)) (fun z => hwa.any.neAt hh (by decide) z))⟩
        have := hRb.2.2 _ _ _ z ha; omega
      · rw [List.getElem?_append_right h] at hy
        have hi : i = bs.length := by
          have := (List.getElem?_eq_some_iff.mp hy).1; simp at this; omega
        subst hi
        simp at hy
        subst hy
        exact ⟨an, han, hwn.fr hF23 (fun z => hwn.any.neAt hh1 (by decide) z)⟩
    have hHs3 : Holds G ow1 m3 fa s0 := fun i y hy => by
      obtain ⟨a, ha, hwa⟩ := hHa i y (by rw [List.getElem?_append_left (List.getElem?_eq_some_iff.mp hy).1]; exact hy)
      exact ⟨a, ha, hwa.fr hFs (hsS ha)⟩
    have hdis3 : ∀ i j a, fd1 i = some a → fa j ≠ some a := by
      intro i j a hi hj
      by_cases hib : i = bs.length
      · subst hib
        rw [han] at hi
        cases hi
        rcases hor with z | ⟨-, z⟩
        · exact hdis _ _ _ z hj
        · exact (hRa.2.1 j _ hj).ne0 z
      · rw [hf1 i hib] at hi
        exact hdis _ _ _ hi hj
    have hfin : Hst G ow1 m4 qh fd1 fa (bs ++ [sw]) s0 := ⟨⟨_, hF4.at (fun z => hw3.ne hh3 (by decide) z.symm) hh3, (show nI bs.length + 1 = nI (bs ++ [sw]).length by rw [List.length_append, nI_1]; rfl), rfl⟩, hRd3.fr hF4 (fun z => hw3.neC hRd3.1 z.symm) (fun i a hi => hwd hi), hRs3.fr hF4 (fun z => hw3.neC hRs3.1 z.symm) (fun i a hi z => hnfa i (by rw [hi, z])), hHd3.fr hF4 (fun i a hi => hwd hi), hHs3.fr hF4 (fun i a hi z => hnfa i (by rw [hi, z])), hne, hdis3, by simp only [List.length_append, List.length_cons, List.length_nil]; omega⟩
    have hP : HP G (fun r => r = qw 5) ow m qh fb fa ow1 m4 fd1 fa := by
      refine ⟨((hFs.mono (fun r z => ?_)).tr (hF4.mono (fun r z => Or.inr z))).A, fun a ha => ?_⟩
      · rcases z with (z | z) | z
        · exact Or.inl (Or.inr <| Or.inl z)
        · exact Or.inl (Or.inr (Or.inr (Or.inr (Or.inl ⟨_, z⟩))))
        · exact Or.inl (Or.inl z)
      · rcases ha with z | z | z | z | z
        · exact Or.inl (Or.inl z)
        · exact Or.inl (Or.inr (Or.inl z))
        · exact Or.inl (Or.inr (Or.inr (Or.inl z)))
        · obtain ⟨i, z⟩ := z
          by_cases hib : i = bs.length
          · subst hib
            rw [han] at z
            cases z
            rcases hor with z | z
            · exact Or.inl (Or.inr (Or.inr (Or.inr (Or.inl ⟨_, z⟩))))
            · exact Or.inr z.2
          · rw [hf1 i hib] at z
            exact Or.inl (Or.inr (Or.inr (Or.inr (Or.inl ⟨_, z⟩))))
        · exact Or.inl (Or.inr (Or.inr (Or.inr (Or.inr z))))
    exact mr_zret X hr hlk hH rfl (Or.inr ⟨s0, y, rfl, rfl, ow1, fd1, x, hfin, hw4, hx.tr hsy, hP⟩) (dk DX1_goOn_0 30 rfl)
  · have h0 : as = [] := by
      cases as with
      | nil => rfl
      | cons y r => exact absurd (nI_lt (a := 0) (b := (y :: r).length) (by simp) (by simp at hle ⊢; omega)) c
    refine lv_iconst (v := 0) X.x X.b (dk DX1_goOn_0 3 rfl) (by decide) ?_
    exact W.widen (k := 4) (n := 197) (Nat.zero_le _) (Nat.zero_le _) (mr_zret X hr hlk hH rfl (Or.inl ⟨h0, rfl, rfl⟩) (dk DX1_goOn_0 4 rfl))
