/-! the text: threes, on both sides -/
theorem okA_all {x y t : Int32} (h : okA x y t = true) : cR x y t = some (nI (cU x y t), nI (cW x y t)) ∧ cU x y t < 81 ∧ cW x y t < 81 ∧ rR x y t = some (nI (rU x y t)) ∧ rU x y t < 81 ∧ rR (nI (rU x y t)) (nI (rU x y t)) 1 = some (nI (rW x y t)) ∧ rW x y t < 81 ∧ (if f_X12_first (nI (rU x y t)) = some 2 then (decide (f_X12_first (nI (rW x y t)) = some 1) && decide (nT (rW x y t) = cP x y t)) else ((decide (f_X12_first (nI (rU x y t)) = some 1) || decide (f_X12_first (nI (rU x y t)) = some 0)) && decide (nT (rU x y t) = cP x y t))) = true := by
  unfold okA at h
  rw [Bool.and_eq_true, Bool.and_eq_true, Bool.and_eq_true, Bool.and_eq_true, Bool.and_eq_true, Bool.and_eq_true, Bool.and_eq_true, decide_eq_true_iff, decide_eq_true_iff, decide_eq_true_iff, decide_eq_true_iff, decide_eq_true_iff, decide_eq_true_iff, decide_eq_true_iff] at h
  exact h
theorem pointOf_3 {stm : OS} (hm : MT3 stm) {x y t : Int32} (h : okA x y t = true) : f_X3_pointOf stm x y t = some (cP x y t) := by
  obtain ⟨h1, h2, h3, -⟩ := okA_all h
  have e : lpv (f_X3_pointOf_9 stm x y t) (0, 0, 1) = some (nI (cU x y t), nI (cW x y t)) := runN_lpv (f := f_X3_pointOf_9 stm x y t) (fun z v h => h) 10 _ _ h1
  unfold f_X3_pointOf cP
  rw [e, ob_s]
  dsimp only
  rw [if_neg (nI_pos (by omega)), if_neg (show ¬ (81 : Int32) ≤ nI (cU x y t) from nI_ge (b := 81) h2 (by decide)), if_pos (inb_t h2 (by omega)), nI_clamp (by omega), show stm.2.2.1 2 (cU x y t) = nT (cU x y t) from hm.2.2 _ h2]
  dsimp only [bnd]
  by_cases c : nT (cU x y t) = -1
  · rw [if_pos c, if_pos c, if_neg (nI_pos (by omega)), if_neg (show ¬ (81 : Int32) ≤ nI (cW x y t) from nI_ge (b := 81) h3 (by decide)), if_pos (inb_t h3 (by omega)), nI_clamp (by omega), show stm.2.2.1 2 (cW x y t) = nT (cW x y t) from hm.2.2 _ h3]
  · rw [if_neg c, if_neg c]
theorem sum_12 {s : OS} (hT : ∀ i, i < 81 → s.2.2.1 18 i = nT i) {x y t : Int32} (h : okA x y t = true) : f_X12_sum 4 s x y t = some (cP x y t) := by
  obtain ⟨-, -, -, h1, h2, h3, h4, h5⟩ := okA_all h
  have e1 : lpv (f_X12_sum_6 (f_X12_sum 3) s x y t) (0, 0) = some (nI (rU x y t)) := runN_lpv (f := f_X12_sum_6 (f_X12_sum 3) s x y t) (fun z v h => h) 10 _ _ h1
  have e2 : lpv (f_X12_sum_6 (f_X12_sum 2) s (nI (rU x y t)) (nI (rU x y t)) 1) (0, 0) = some (nI (rW x y t)) := runN_lpv (f := f_X12_sum_6 (f_X12_sum 2) s (nI (rU x y t)) (nI (rU x y t)) 1) (fun z v h => h) 10 _ _ h3
  show f_X12_sum_T (f_X12_sum 3) s x y t = _
  unfold f_X12_sum_T
  rw [e1, ob_s]
  by_cases c : f_X12_first (nI (rU x y t)) = some 2
  · rw [if_pos c, Bool.and_eq_true, decide_eq_true_iff, decide_eq_true_iff] at h5
    rw [c, ob_s, if_pos rfl]
    show (f_X12_sum_T (f_X12_sum 2) s (nI (rU x y t)) (nI (rU x y t)) 1).bind _ = _
    unfold f_X12_sum_T
    rw [e2, ob_s, h5.1, ob_s, if_neg (by decide), if_pos (inb_t h4 (by omega)), nI_clamp (by omega), hT _ h4, ob_s, h5.2]
  · rw [if_neg c, Bool.and_eq_true, Bool.or_eq_true, decide_eq_true_iff, decide_eq_true_iff, decide_eq_true_iff] at h5
    obtain ⟨h6, h7⟩ := h5
    rcases h6 with h6 | h6
    · rw [h6, ob_s, if_neg (by decide), if_pos (inb_t h2 (by omega)), nI_clamp (by omega), hT _ h2, h7]
    · rw [h6, ob_s, if_neg (by decide), if_pos (inb_t h2 (by omega)), nI_clamp (by omega), hT _ h2, h7]
theorem okB_at {i j : Nat} (hi : i < 40) (hj : j < 40) (hij : i < j) : f_X12_areJoined (vT i) (vT j) = f_X3_areJoined (vT i) (vT j) ∧ f_X3_areJoined (vT i) (vT j) = some (if jnB i j = true then 1 else 0) ∧ (jnB i j = true → okA (vT i) (vT j) 1 = true ∧ okA (vT i) (vT j) 2 = true ∧ cP (vT i) (vT j) 1 = nI (tP i j 1) ∧ cP (vT i) (vT j) 2 = nI (tP i j 2) ∧ tP i j 1 < 40 ∧ tP i j 2 < 40) := by
  have h := okB_all i hi j hj hij
  unfold okB at h
  rw [Bool.and_eq_true, Bool.and_eq_true, Bool.or_eq_true, Bool.or_eq_true, decide_eq_true_iff, decide_eq_true_iff, decide_eq_true_iff] at h
  obtain ⟨⟨h1, h2⟩, h3⟩ := h
  have hj1 : jnB i j = true ↔ f_X3_areJoined (vT i) (vT j) = some 1 := by unfold jnB; exact decide_eq_true_iff
  refine ⟨h1, ?_, fun c => ?_⟩
  · rcases h2 with h2 | h2
    · rw [h2, if_pos (hj1.mpr h2)]
    · rw [h2, if_neg (fun z => by rw [hj1, h2] at z; exact absurd z (by decide))]
  · rcases h3 with h3 | h3
    · rw [c] at h3; cases h3
    · rw [Bool.and_eq_true, Bool.and_eq_true, Bool.and_eq_true, Bool.and_eq_true, Bool.and_eq_true, decide_eq_true_iff, decide_eq_true_iff, decide_eq_true_iff, decide_eq_true_iff] at h3
      exact h3
theorem threes_3 {stm sto : OS} (hm : MT3 stm) : ∃ x, f_X3_makeThrees stm sto = some x ∧ PL x 40 thL := by
  obtain ⟨x0, e0, p0⟩ := clear_10 sto (n := 40) (by decide)
  obtain ⟨x1, e1, p1⟩ := grow_loop (f := f_X3_makeThrees_8 stm) (P := fun s l => PL s 40 l) thC1 (N := 40) (fun i s l hi hP hl => by
    obtain ⟨s', e, p⟩ := grow_from (f := f_X3_makeThrees_18 stm (nI i)) (P := fun s l => PL s 40 l) (thC i) (N := 40) (i + 1) (fun j s l hlo hj hP hl => by
      obtain ⟨a1, a2, a3⟩ := okB_at hi hj (by omega)
      have hst : f_X3_makeThrees_18 stm (nI i) (s, nI j) = if jnB i j = true then (if tP i j 1 ≤ j then some (.inl (s, nI (j + 1))) else if tP i j 2 ≤ j then some (.inl (s, nI (j + 1))) else (f_X10_append s (((bit1 i ||| bit1 j) ||| bit1 (tP i j 1)) ||| bit1 (tP i j 2))).bind (fun x28 => some (.inl (x28, nI (j + 1))))) else some (.inl (s, nI (j + 1))) := by
        unfold f_X3_makeThrees_18
        dsimp only
        rw [if_neg (show ¬ (40 : Int32) ≤ nI j from nI_ge (b := 40) hj (by decide)), if_pos (inb_t hi (by omega)), if_pos (inb_t hj (by omega)), nI_clamp (by omega), nI_clamp (by omega), show stm.2.2.1 1 i = vT i from hm.2.1 i hi, show stm.2.2.1 1 j = vT j from hm.2.1 j hj, a2, ob_s]
        dsimp only [bnd]
        rw [nI_1]
        by_cases c : jnB i j = true
        · obtain ⟨b1, b2, b3, b4, b5, b6⟩ := a3 c
          rw [if_pos c, if_neg ne10, if_pos c, pointOf_3 hm b1, ob_s, pointOf_3 hm b2, ob_s, b3, b4]
          by_cases d1 : tP i j 1 ≤ j
          · rw [if_pos (nI_le d1 (by omega)), if_pos d1]
          · rw [if_neg (nI_ge (by omega) (by omega)), if_neg d1]
            by_cases d2 : tP i j 2 ≤ j
            · rw [if_pos (nI_le d2 (by omega)), if_pos d2]
            · rw [if_neg (nI_ge (by omega) (by omega)), if_neg d2, sh1 (by omega), sh1 (by omega), sh1 (by omega), sh1 (by omega)]
        · rw [if_neg c, if_pos rfl, if_neg c]
      rw [hst]
      unfold thC at hl ⊢
      by_cases c : jnB i j = true
      · rw [if_pos c] at hl ⊢
        rw [if_pos c]
        by_cases d1 : tP i j 1 ≤ j
        · rw [if_pos d1]
          rw [if_pos d1]
          exact ⟨s, rfl, by rw [List.append_nil]; exact hP⟩
        · rw [if_neg d1] at hl ⊢
          rw [if_neg d1]
          by_cases d2 : tP i j 2 ≤ j
          · rw [if_pos d2]
            rw [if_pos d2]
            exact ⟨s, rfl, by rw [List.append_nil]; exact hP⟩
          · rw [if_neg d2] at hl ⊢
            rw [if_neg d2]
            have hl : l.length + 1 ≤ 64 := hl
            obtain ⟨s', f1, f2⟩ := append_10 hP (((bit1 i ||| bit1 j) ||| bit1 (tP i j 1)) ||| bit1 (tP i j 2)) (by omega)
            exact ⟨s', by rw [f1, ob_s], f2⟩
      · rw [if_neg c]
        rw [if_neg c]
        exact ⟨s, rfl, by rw [List.append_nil]; exact hP⟩) (fun s l hP => by
      unfold f_X3_makeThrees_18
      dsimp only
      rw [if_pos (show (40 : Int32) ≤ nI 40 by decide)]) (39 - i) (i + 1) s l (Nat.le_refl _) (by omega) hP hl
    refine ⟨s', ?_, p⟩
    unfold f_X3_makeThrees_8
    dsimp only
    rw [if_neg (show ¬ (40 : Int32) ≤ nI i from nI_ge (b := 40) hi (by decide))]
    dsimp only [bnd]
    rw [nI_1, e, ob_s]) (fun s l hP => by
    unfold f_X3_makeThrees_8
    dsimp only
    rw [if_pos (show (40 : Int32) ≤ nI 40 by decide)]) 40 0 x0 [] (by omega) p0 th_le
  rw [List.nil_append, thL_eq] at p1
  refine ⟨x1, ?_, p1⟩
  unfold f_X3_makeThrees
  rw [show (40 : Int32) = nI 40 from rfl, e0, ob_s, show (0 : Int32) = nI 0 from rfl, e1, ob_s]
theorem np_s (v : Nat) : npT (v + 1) = npT v + if f_X12_first (nI v) = some 1 then 1 else 0 := by
  unfold npT
  rw [cnt_s]
  by_cases c : f_X12_first (nI v) = some 1
  · rw [if_pos c, if_pos (decide_eq_true c)]
  · rw [if_neg c, if_neg (by rw [decide_eq_false c]; decide)]
theorem np_le : ∀ v, v ≤ 81 → npT v ≤ 40 := fun v hv => by
  have h : ∀ k, npT v ≤ npT (v + k) := by
    intro k
    induction k with
    | zero => exact Nat.le_refl _
    | succ k ih => rw [show v + (k + 1) = (v + k) + 1 by omega, np_s]; omega
  have := h (81 - v)
  rw [show v + (81 - v) = 81 by omega, np_81] at this
  exact this
theorem tabs_12 (s0 : OS) : ∃ x, lpv f_X12_threes_4 (s0, 0, 0) = some (x, nI 40) ∧ KM12 s0 x ∧ x.1 = s0.1 ∧ (∀ i, i < 81 → x.2.2.1 18 i = nT i) ∧ ∀ i, i < 40 → x.2.2.1 19 i = vT i := by
  have key := lpv_inv (f := f_X12_threes_4) (fun v z => v ≤ 81 ∧ z.2.2 = nI v ∧ z.2.1 = nI (npT v) ∧ KM12 s0 z.1 ∧ z.1.1 = s0.1 ∧ (∀ i, i < v → z.1.2.2.1 18 i = nT i) ∧ ∀ i, i < npT v → z.1.2.2.1 19 i = vT i) 81 (fun r => r.2 = nI 40 ∧ KM12 s0 r.1 ∧ r.1.1 = s0.1 ∧ (∀ i, i < 81 → r.1.2.2.1 18 i = nT i) ∧ ∀ i, i < 40 → r.1.2.2.1 19 i = vT i) (fun v z hv hI => Or.inl ?_) (fun z hI => ?_) 0 (s0, 0, 0) (Nat.zero_le _) ⟨by omega, rfl, rfl, KM12.rf, rfl, fun i hi => by omega, fun i hi => absurd hi (Nat.not_lt_zero _)⟩
  · obtain ⟨⟨x, n⟩, e1, e2, e3⟩ := key
    dsimp only at e2
    subst e2
    exact ⟨x, e1, e3⟩
  · obtain ⟨x, b1, b2⟩ := z
    obtain ⟨g0, g1, g2, ⟨k1, k2, k3⟩, g4, g5, g6⟩ := hI
    dsimp only at g1 g2 k1 k2 k3 g4 g5 g6
    subst g1 g2
    have hB := fB_all v hv
    unfold fB at hB
    by_cases c : f_X12_first (nI v) = some 1
    · rw [if_pos c, Bool.and_eq_true, Bool.and_eq_true, decide_eq_true_iff, decide_eq_true_iff, decide_eq_true_iff] at hB
      obtain ⟨h1, h2, h3⟩ := hB
      have hnp : npT (v + 1) = npT v + 1 := by rw [np_s, if_pos c]
      refine ⟨(oA (oA (oA x 18 (upd (x.2.2.1 18) v (-1))) 18 (upd (upd (x.2.2.1 18) v (-1)) v (nI (npT v)))) 19 (upd (x.2.2.1 19) (npT v) (nI v)), nI (npT (v + 1)), nI (v + 1)), ?_, by omega, rfl, rfl, ⟨k1, fun k a b => ?_, k3⟩, g4, fun i hi => ?_, fun i hi => ?_⟩
      · unfold f_X12_threes_4
        dsimp only
        rw [if_neg (show ¬ (81 : Int32) ≤ nI v from nI_ge (b := 81) hv (by decide)), if_pos (inb_t hv (by omega)), nI_clamp (by omega), c]
        dsimp only [bnd]
        rw [ob_s, if_pos rfl, if_pos (inb_t h3 (by omega)), nI_clamp (by omega), oA_self, oA_ne (j := 19) _ (by decide), oA_ne (j := 19) _ (by decide), nI_1, nI_1, hnp]
      · dsimp only
        rw [oA_ne _ b, oA_ne _ a, oA_ne _ a]
        exact k2 k a b
      · dsimp only
        rw [oA_ne (j := 18) _ (by decide), oA_self]
        by_cases d : i = v
        · rw [d, upd_s, h1]
        · rw [upd_n d, upd_n d]; exact g5 i (by omega)
      · dsimp only
        rw [oA_self]
        by_cases d : i = npT v
        · rw [d, upd_s, h2]
        · rw [upd_n d]; exact g6 i (by omega)
    · rw [if_neg c, Bool.and_eq_true, Bool.or_eq_true, decide_eq_true_iff, decide_eq_true_iff, decide_eq_true_iff] at hB
      obtain ⟨h1, h2⟩ := hB
      have hnp : npT (v + 1) = npT v := by rw [np_s, if_neg c, Nat.add_zero]
      refine ⟨(oA x 18 (upd (x.2.2.1 18) v (-1)), nI (npT (v + 1)), nI (v + 1)), ?_, by omega, rfl, rfl, ⟨k1, fun k a b => ?_, k3⟩, g4, fun i hi => ?_, fun i hi => ?_⟩
      · unfold f_X12_threes_4
        dsimp only
        rw [if_neg (show ¬ (81 : Int32) ≤ nI v from nI_ge (b := 81) hv (by decide)), if_pos (inb_t hv (by omega)), nI_clamp (by omega)]
        dsimp only [bnd]
        rcases h2 with h2 | h2
        · rw [h2, ob_s, if_neg (by decide), nI_1, hnp]
        · rw [h2, ob_s, if_neg (by decide), nI_1, hnp]
      · dsimp only
        rw [oA_ne _ a]
        exact k2 k a b
      · dsimp only
        rw [oA_self]
        by_cases d : i = v
        · rw [d, upd_s, h1]
        · rw [upd_n d]; exact g5 i (by omega)
      · dsimp only
        rw [oA_ne (j := 19) _ (by decide)]
        exact g6 i (by omega)
  · obtain ⟨x, b1, b2⟩ := z
    obtain ⟨g0, g1, g2, g3, g4, g5, g6⟩ := hI
    dsimp only at g1 g2 g3 g4 g5 g6
    subst g1 g2
    rw [np_81] at g6
    refine ⟨(x, nI (npT 81)), ?_, by rw [np_81], g3, g4, g5, g6⟩
    unfold f_X12_threes_4
    dsimp only
    rw [if_pos (show (81 : Int32) ≤ nI 81 by decide)]
theorem threes_12 {s : OS} (h16 : s.1 16 = 0) : ∃ x, f_X12_threes s = some x ∧ NW12 x 40 thL ∧ KM12 s x := by
  obtain ⟨t, e0, t1, t2, t3, t4⟩ := tabs_12 s
  obtain ⟨u, hu⟩ : ∃ u, u = oI t 15 (nI 40) := ⟨_, rfl⟩
  have p0 : NP u 40 u [] := by
    refine ⟨⟨?_, ?_, Nat.zero_le _, fun i hi => absurd hi (Nat.not_lt_zero _)⟩, KM12.rf, rfl⟩
    · rw [hu, oI_self]
    · rw [hu, oI_ne _ (by decide), t2, h16]; rfl
  have u18 : u.2.2.1 = t.2.2.1 := by rw [hu]; rfl
  obtain ⟨x1, e1, p1⟩ := grow_loop (f := f_X12_threes_58 (nI 40)) (P := NP u 40) thC1 (N := 40) (fun i s l hi hP hl => by
    obtain ⟨s', e, p⟩ := grow_from (f := f_X12_threes_67 (nI 40) (nI i)) (P := NP u 40) (thC i) (N := 40) (i + 1) (fun j s l hlo hj hP hl => by
      obtain ⟨a1, a2, a3⟩ := okB_at hi hj (by omega)
      have hs18 : ∀ i, i < 81 → s.2.2.1 18 i = nT i := fun i hi => by rw [hP.2.2, u18]; exact t3 i hi
      have hs19 : ∀ i, i < 40 → s.2.2.1 19 i = vT i := fun i hi => by rw [hP.2.2, u18]; exact t4 i hi
      have hst : f_X12_threes_67 (nI 40) (nI i) (s, nI j) = if jnB i j = true then (if tP i j 1 ≤ j then some (.inl (s, nI (j + 1))) else if tP i j 2 ≤ j then some (.inl (s, nI (j + 1))) else (f_X12_puts s (((bit1 i ||| bit1 j) ||| bit1 (tP i j 1)) ||| bit1 (tP i j 2))).bind (fun x28 => some (.inl (x28, nI (j + 1))))) else some (.inl (s, nI (j + 1))) := by
        unfold f_X12_threes_67
        dsimp only
        rw [if_neg (nI_ge hj (by decide)), if_pos (inb_t hi (by omega)), if_pos (inb_t hj (by omega)), nI_clamp (by omega), nI_clamp (by omega), hs19 i hi, hs19 j hj, a1, a2, ob_s]
        dsimp only [bnd]
        rw [nI_1]
        by_cases c : jnB i j = true
        · obtain ⟨b1, b2, b3, b4, b5, b6⟩ := a3 c
          rw [if_pos c, if_neg ne10, if_pos c, sum_12 hs18 b1, ob_s, sum_12 hs18 b2, ob_s, b3, b4]
          by_cases d1 : tP i j 1 ≤ j
          · rw [if_pos (nI_le d1 (by omega)), if_pos d1]
          · rw [if_neg (nI_ge (by omega) (by omega)), if_neg d1]
            by_cases d2 : tP i j 2 ≤ j
            · rw [if_pos (nI_le d2 (by omega)), if_pos d2]
            · rw [if_neg (nI_ge (by omega) (by omega)), if_neg d2, bit_12 (by omega), ob_s, bit_12 (by omega), ob_s, bit_12 (by omega), ob_s, bit_12 (by omega), ob_s]
        · rw [if_neg c, if_pos rfl, if_neg c]
      rw [hst]
      unfold thC at hl ⊢
      by_cases c : jnB i j = true
      · rw [if_pos c] at hl ⊢
        rw [if_pos c]
        by_cases d1 : tP i j 1 ≤ j
        · rw [if_pos d1]
          rw [if_pos d1]
          exact ⟨s, rfl, by rw [List.append_nil]; exact hP⟩
        · rw [if_neg d1] at hl ⊢
          rw [if_neg d1]
          by_cases d2 : tP i j 2 ≤ j
          · rw [if_pos d2]
            rw [if_pos d2]
            exact ⟨s, rfl, by rw [List.append_nil]; exact hP⟩
          · rw [if_neg d2] at hl ⊢
            rw [if_neg d2]
            have hl : l.length + 1 ≤ 64 := hl
            obtain ⟨s', f1, f2⟩ := puts_12 hP (((bit1 i ||| bit1 j) ||| bit1 (tP i j 1)) ||| bit1 (tP i j 2)) (by omega)
            exact ⟨s', by rw [f1, ob_s], f2⟩
      · rw [if_neg c]
        rw [if_neg c]
        exact ⟨s, rfl, by rw [List.append_nil]; exact hP⟩) (fun s l hP => by
      unfold f_X12_threes_67
      dsimp only
      rw [if_pos (nI_le (Nat.le_refl _) (by decide))]) (39 - i) (i + 1) s l (Nat.le_refl _) (by omega) hP hl
    refine ⟨s', ?_, p⟩
    unfold f_X12_threes_58
    dsimp only
    rw [if_neg (nI_ge hi (by decide))]
    dsimp only [bnd]
    rw [nI_1, e, ob_s]) (fun s l hP => by
    unfold f_X12_threes_58
    dsimp only
    rw [if_pos (nI_le (Nat.le_refl _) (by decide))]) 40 0 u [] (by omega) p0 th_le
  rw [List.nil_append, thL_eq] at p1
  refine ⟨x1, ?_, p1.1, t1.tr ((KM12.rf.o15 (nI 40)).tr (by rw [← hu]; exact p1.2.1))⟩
  unfold f_X12_threes
  rw [e0, ob_s]
  dsimp only [bnd]
  rw [← hu, show (0 : Int32) = nI 0 from rfl, e1, ob_s]
