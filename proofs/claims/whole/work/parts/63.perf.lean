/-! the reference's told acts -/
theorem within64 (v : Int64) {n : Nat} (hn : n ≤ 64) : f_X12_within v 0 (((nI n) - 1 : Int32).toInt64) = some (if ¬ v < 0 ∧ v < lN n then 1 else 0) := by
  unfold f_X12_within
  simp only [lg_cmp_lt, lg_cmp_gt]
  by_cases h1 : v < 0
  · rw [if_pos h1, if_neg (fun z => z.1 h1)]
  · rw [if_neg h1]
    have e1 : (((nI n) - 1 : Int32).toInt64).toInt = (n : Int) - 1 := by
      rw [Int32.toInt_toInt64]
      exact pk_sub_toInt (b := 1) (by omega) (by omega)
    have e2 : ((((nI n) - 1 : Int32).toInt64) < v) ↔ ¬ v < lN n := by
      rw [fa_lt64, fa_lt64, e1, lN_toInt (by omega)]
      omega
    by_cases h2 : v < lN n
    · rw [if_neg (fun z => (e2.mp z) h2), if_pos ⟨h1, h2⟩]
    · rw [if_pos (e2.mpr h2), if_neg (fun z => h2 z.2)]
theorem lN32 : ∀ j, j < 64 → (lN j).toInt32 = nI j := by decide +kernel
noncomputable def doesB (st : OS) (a0 a1 : Int32) (v2 W : Int64) : Option (Int32 × OS) := (if (lg_cmp v2 ((-1))) = 0 then bnd (a1 + 1 : Int32) (fun v189 => (lpv (f_X12_does_61 st a0) ((0, v189))).bind (fun x191 => match x191 with | (k195, v193, v194) => (if k195 = 0 then some (((-1), st)) else (f_X12_ones v193).bind (fun x196 => (if x196 < 2 then some (((-1), st)) else (f_X12_adds st v193).bind (fun x200 => match x200 with | (v202, t203) => (if v202 = ((-1)) then some (((-1), t203)) else some ((v194, t203))))))))) else (if (lg_cmp v2 ((-2))) = 0 then (f_X12_within W 0 (((st.1 1) - 1 : Int32).toInt64)).bind (fun x181 => (if x181 = 0 then some (((-1), st)) else (f_X12_drops st ((W : Int64).toInt32)).bind (fun x185 => match x185 with | (v187, t188) => some ((a1 + 2, t188))))) else (if (lg_cmp v2 ((-4))) = 0 then (f_X12_within W 0 (((st.1 0) - 1 : Int32).toInt64)).bind (fun x174 => (if x174 = 0 then some (((-1), st)) else (f_X12_leaves st ((W : Int64).toInt32)).bind (fun x178 => some ((a1 + 2, x178))))) else (if (lg_cmp v2 ((-3))) = 0 then (f_X12_duals st).bind (fun x144 => (if (lg_cmp v2 ((-3))) = 0 then (if (1 : Int32) = 0 then some (((-1), x144)) else some ((a1 + 1, x144))) else (if (lg_cmp v2 ((-5))) = 0 then (f_X12_undoes x144).bind (fun x159 => match x159 with | (v161, t162) => (if v161 = 0 then (if (lg_cmp v2 ((-6))) = 0 then (f_X12_doesAgain t162).bind (fun x167 => match x167 with | (v169, t170) => (if v169 = 0 then (if (0 : Int32) = 0 then some (((-1), t170)) else some ((a1 + 1, t170))) else (if (1 : Int32) = 0 then some (((-1), t170)) else some ((a1 + 1, t170))))) else (if (0 : Int32) = 0 then some (((-1), t162)) else some ((a1 + 1, t162)))) else (if (1 : Int32) = 0 then some (((-1), t162)) else some ((a1 + 1, t162))))) else (if (lg_cmp v2 ((-6))) = 0 then (f_X12_doesAgain x144).bind (fun x152 => match x152 with | (v154, t155) => (if v154 = 0 then (if (0 : Int32) = 0 then some (((-1), t155)) else some ((a1 + 1, t155))) else (if (1 : Int32) = 0 then some (((-1), t155)) else some ((a1 + 1, t155))))) else (if (0 : Int32) = 0 then some (((-1), x144)) else some ((a1 + 1, x144))))))) else (if (lg_cmp v2 ((-3))) = 0 then (if (1 : Int32) = 0 then some (((-1), st)) else some ((a1 + 1, st))) else (if (lg_cmp v2 ((-5))) = 0 then (f_X12_undoes st).bind (fun x129 => match x129 with | (v131, t132) => (if v131 = 0 then (if (lg_cmp v2 ((-6))) = 0 then (f_X12_doesAgain t132).bind (fun x137 => match x137 with | (v139, t140) => (if v139 = 0 then (if (0 : Int32) = 0 then some (((-1), t140)) else some ((a1 + 1, t140))) else (if (1 : Int32) = 0 then some (((-1), t140)) else some ((a1 + 1, t140))))) else (if (0 : Int32) = 0 then some (((-1), t132)) else some ((a1 + 1, t132)))) else (if (1 : Int32) = 0 then some (((-1), t132)) else some ((a1 + 1, t132))))) else (if (lg_cmp v2 ((-6))) = 0 then (f_X12_doesAgain st).bind (fun x122 => match x122 with | (v124, t125) => (if v124 = 0 then (if (0 : Int32) = 0 then some (((-1), t125)) else some ((a1 + 1, t125))) else (if (1 : Int32) = 0 then some (((-1), t125)) else some ((a1 + 1, t125))))) else (if (0 : Int32) = 0 then some (((-1), st)) else some ((a1 + 1, st))))))))))
section PERF
variable {st : OS} {s : Wst} {tp : Nat → Int32} {hd : Nat} {wr wa : Int32} {ic : Nat → Option Wd} {tc : Nat → Option (Nat × List Int64)} {j so k : Nat} {row : List Int64}
theorem told_12 (h : RR st s tp hd wr wa ic tc) (hj : j < 4) (ht : tc j = some (so, row)) : ∀ (f i : Nat) (set : Int64), i + f = row.length → ∃ r, lpv (f_X12_does_61 st (nI j)) (set, nI i) = some r ∧ (match told row s.1.1 f i set with | none => r.1 = 0 | some (s', e) => r = (1, s', nI e)) := by
  obtain ⟨t1, t2, t3, t4, t5⟩ := (h.2.2.2.2.1 j hj).2 so row ht
  have hn := h.1.2.2.1
  intro f
  induction f with
  | zero =>
    intro i set hi
    refine ⟨(1, set, nI i), ?_, rfl⟩
    apply lpv_out
    unfold f_X12_does_61
    dsimp only
    rw [if_pos (inb_t hj (by omega)), nI_clamp (by omega), t3, if_pos (nI_le (by omega) (by omega))]
  | succ f ih =>
    intro i set hi
    have e0 : f_X12_does_61 st (nI j) (set, nI i) = (if wl row i < 0 then some (.inr (1, set, nI i)) else if wl row i < lN s.1.1 then (f_X12_bit ((wl row i).toInt32)).bind (fun x => some (.inl (set ||| x, nI (i + 1)))) else some (.inr (0, set, nI i))) := by
      unfold f_X12_does_61
      dsimp only
      rw [if_pos (inb_t hj (by omega)), nI_clamp (by omega), t3, if_neg (nI_ge (by omega) (by omega)), i40m, if_pos (inb_t (by omega) (by omega)), nI_clamp (by omega), t5 i (by omega), h.1.1, nI_l (by omega)]
      simp only [lg_cmp_lt, bnd, nI_1]
    by_cases z1 : wl row i < 0
    · rw [if_pos z1] at e0
      refine ⟨_, lpv_out e0, ?_⟩
      unfold told
      rw [if_pos z1]
    · rw [if_neg z1] at e0
      by_cases z2 : wl row i < lN s.1.1
      · obtain ⟨p, hp, e1, e2⟩ := lN_of_lt hn z1 z2
        rw [if_pos z2, e1, lN32 p (by omega), bit_12 (by omega), ob_s] at e0
        obtain ⟨r, e3, e4⟩ := ih (i + 1) (set ||| bit1 p) (by omega)
        refine ⟨r, by rw [lpv_in e0]; exact e3, ?_⟩
        unfold told
        rw [if_neg z1, if_pos z2, e2]
        exact e4
      · rw [if_neg z2] at e0
        refine ⟨_, lpv_out e0, ?_⟩
        unfold told
        rw [if_neg z1, if_neg z2]
theorem told_sub {n : Nat} (hn : n ≤ 64) : ∀ (f i : Nat) (set s' : Int64) (e : Nat), told row n f i set = some (s', e) → (∀ p, tb set p = true → p < n) → ∀ p, tb s' p = true → p < n := by
  intro f
  induction f with
  | zero => intro i set s' e h hs; cases h; exact hs
  | succ f ih =>
    intro i set s' e h hs
    unfold told at h
    split at h
    · cases h; exact hs
    · rename_i z1
      split at h
      · rename_i z2
        obtain ⟨p, hp, e1, e2⟩ := lN_of_lt hn z1 z2
        rw [e2] at h
        refine ih _ _ _ _ h (fun q hq => ?_)
        rw [tb_or, Bool.or_eq_true, tb_bit1 (by omega)] at hq
        rcases hq with hq | hq
        · exact hs q hq
        · rw [of_decide_eq_true hq]; exact hp
      · cases h
theorem does_W (h : RR st s tp hd wr wa ic tc) (hj : j < 4) (ht : tc j = some (so, row)) (hk : k < row.length) : f_X12_does st (nI j) (nI k) = doesB st (nI j) (nI k) (wl row k) (if k + 1 < row.length then wl row (k + 1) else -1) := by
  obtain ⟨t1, t2, t3, t4, t5⟩ := (h.2.2.2.2.1 j hj).2 so row ht
  unfold f_X12_does
  rw [i40m, if_pos (inb_t (by omega) (by omega)), nI_clamp (by omega)]
  dsimp only [bnd]
  rw [if_pos (inb_t hj (by omega)), nI_clamp (by omega), t3, t5 k hk, nI_1]
  by_cases z : k + 1 < row.length
  · rw [if_neg (nI_ge z (by omega)), if_pos z, nI_1, if_pos (inb_t (by omega) (by omega)), nI_clamp (by omega), show 40 * j + k + 1 = 40 * j + (k + 1) by omega, t5 (k + 1) z]
    unfold doesB
    simp only [bnd, nI_1]
  · rw [if_pos (nI_le (by omega) (by omega)), if_neg z]
    unfold doesB
    simp only [bnd, nI_1]
theorem lm : ¬ (-2 : Int64) = -1 ∧ ¬ (-4 : Int64) = -1 ∧ ¬ (-4 : Int64) = -2 ∧ ¬ (-3 : Int64) = -1 ∧ ¬ (-3 : Int64) = -2 ∧ ¬ (-3 : Int64) = -4 ∧ ¬ (-5 : Int64) = -1 ∧ ¬ (-5 : Int64) = -2 ∧ ¬ (-5 : Int64) = -4 ∧ ¬ (-5 : Int64) = -3 ∧ ¬ (-6 : Int64) = -1 ∧ ¬ (-6 : Int64) = -2 ∧ ¬ (-6 : Int64) = -4 ∧ ¬ (-6 : Int64) = -3 ∧ ¬ (-6 : Int64) = -5 ∧ ¬ (-5 : Int64) = -6 := by decide
theorem hm1 (n : Nat) : ¬ (¬ (-1 : Int64) < 0 ∧ (-1 : Int64) < lN n) := fun z => z.1 (by decide)
theorem actM_z (h : (actM row k s).1 = 0) : (actM row k s).2 = s := by
  unfold actM at h ⊢
  by_cases z1 : wl row k = -1
  · rw [if_pos z1] at h ⊢
    cases hto : told row s.1.1 (row.length - (k + 1)) (k + 1) 0 with
    | none => rfl
    | some y =>
      obtain ⟨set, e9⟩ := y
      obtain ⟨b1, b2⟩ := told_e _ _ _ _ _ hto
      rw [hto] at h
      dsimp only at h ⊢
      by_cases z2 : pcn set < 2
      · rw [if_pos z2]
      · rw [if_neg z2] at h ⊢
        by_cases z3 : s.1.2.length = 64
        · rw [if_pos z3]
        · rw [if_neg z3] at h
          have h : e9 - k = 0 := h
          omega
  · rw [if_neg z1] at h ⊢
    by_cases z2 : wl row k = -2
    · rw [if_pos z2] at h ⊢
      split at h
      · exact absurd (show (2 : Nat) = 0 from h) (by decide)
      · rename_i z3
        rw [if_neg z3]
    · rw [if_neg z2] at h ⊢
      by_cases z5 : wl row k = -4
      · rw [if_pos z5] at h ⊢
        split at h
        · exact absurd (show (2 : Nat) = 0 from h) (by decide)
        · rename_i z3
          rw [if_neg z3]
      · rw [if_neg z5] at h ⊢
        by_cases z6 : wl row k = -3
        · rw [if_pos z6] at h
          exact absurd (show (1 : Nat) = 0 from h) (by decide)
        · rw [if_neg z6] at h ⊢
          by_cases z7 : wl row k = -5
          · rw [if_pos z7] at h ⊢
            cases hg : s.2.1.getLast? with
            | none => rfl
            | some v =>
              rw [hg] at h
              exact absurd (show (1 : Nat) = 0 from h) (by decide)
          · rw [if_neg z7] at h ⊢
            by_cases z8 : wl row k = -6
            · rw [if_pos z8] at h ⊢
              cases hg : s.2.2.getLast? with
              | none => rfl
              | some v =>
                rw [hg] at h
                exact absurd (show (1 : Nat) = 0 from h) (by decide)
            · rw [if_neg z8]
theorem does_12 (h : RR st s tp hd wr wa ic tc) (hW : WFs s ic) (hj : j < 4) (ht : tc j = some (so, row)) (hk : k < row.length) : ∃ v x, f_X12_does st (nI j) (nI k) = some (v, x) ∧ x.1 2 = st.1 2 ∧ RR x (actM row k s).2 tp hd wr wa ic tc ∧ WFs (actM row k s).2 ic ∧ ((actM row k s).1 = 0 → v = -1) ∧ ((actM row k s).1 ≠ 0 → v = nI (k + (actM row k s).1) ∧ k + (actM row k s).1 ≤ row.length) := by
  have hrow := ((h.2.2.2.2.1 j hj).2 so row ht).2.2.2.1
  have hn := h.1.2.2.1
  have hl := h.1.2.2.2.1
  rw [does_W h hj ht hk]
  unfold actM doesB
  simp only [lg_cmp_eq]
  by_cases z1 : wl row k = -1
  · rw [if_pos z1, if_pos z1]
    dsimp only [bnd]
    obtain ⟨r, e, hr⟩ := told_12 h hj ht (row.length - (k + 1)) (k + 1) 0 (by omega)
    rw [nI_1, e, ob_s]
    cases hto : told row s.1.1 (row.length - (k + 1)) (k + 1) 0 with
    | none =>
      rw [hto] at hr
      obtain ⟨r1, r2, r3⟩ := r
      have hr : r1 = 0 := hr
      dsimp only
      rw [if_pos hr]
      exact ⟨_, _, rfl, rfl, h, hW, fun _ => rfl, fun z => absurd rfl z⟩
    | some y =>
      obtain ⟨set, e9⟩ := y
      rw [hto] at hr
      have hr : r = (1, set, nI e9) := hr
      subst hr
      obtain ⟨b1, b2⟩ := told_e _ _ _ _ _ hto
      have hsub := told_sub hn _ _ _ _ _ hto (fun p hp => by rw [tb_0] at hp; cases hp)
      dsimp only
      rw [if_neg (show ¬ (1 : Nat) = 0 by decide), ones_12, ob_s]
      simp only [lt2]
      by_cases z2 : pcn set < 2
      · rw [if_pos z2, if_pos z2]
        exact ⟨_, _, rfl, rfl, h, hW, fun _ => rfl, fun z => absurd rfl z⟩
      · rw [if_neg z2, if_neg z2]
        obtain ⟨g1, g2⟩ := adds_12 h.1 h.2.1 set
        by_cases z3 : s.1.2.length = 64
        · rw [if_pos z3, g1 z3, ob_s]
          exact ⟨_, _, rfl, rfl, h, hW, fun _ => rfl, fun z => absurd rfl z⟩
        · obtain ⟨x, e5, e6, e7, e8⟩ := g2 (by omega)
          rw [if_neg z3, e5, ob_s]
          dsimp only
          rw [if_neg (nI_m1 (by omega))]
          refine ⟨_, _, rfl, e8.1 2 rfl, h.kq (s' := (_, _, _)) e8 e6 e7, hW.act (hW.1.add (sub_fst hn hsub) (by omega)), fun z => ?_, fun _ => ⟨?_, ?_⟩⟩
          · omega
          · rw [show k + (e9 - k) = e9 by omega]
          · omega
  · rw [if_neg z1, if_neg z1]
    by_cases z2 : wl row k = -2
    · rw [if_pos z2, if_pos z2, h.1.2.1, within64 _ hl, ob_s]
      by_cases z3 : k + 1 < row.length
      · rw [if_pos z3]
        by_cases z4 : ¬ wl row (k + 1) < 0 ∧ wl row (k + 1) < lN s.1.2.length
        · obtain ⟨p, hp, e1, e2⟩ := lN_of_lt hl z4.1 z4.2
          rw [if_pos z4, if_neg ne10, if_pos ⟨z3, z4⟩, e1, lN32 p (by omega)]
          obtain ⟨x, e5, e6, e7, e8⟩ := drops_12 h.1 h.2.1 hp
          rw [e5, ob_s, wb_tn (by omega)]
          refine ⟨_, _, rfl, e8.1 2 rfl, h.kq (s' := (_, _, _)) e8 e6 e7, hW.act (hW.1.drop p), fun z => absurd (show (2 : Nat) = 0 from z) (by decide), fun _ => ⟨by show nI k + nI 2 = _; rw [nI_add], by show k + 2 ≤ _; omega⟩⟩
        · rw [if_neg z4, if_pos rfl, if_neg (show ¬ (k + 1 < row.length ∧ ¬ wl row (k + 1) < 0 ∧ wl row (k + 1) < lN s.1.2.length) from fun z => z4 z.2)]
          exact ⟨_, _, rfl, rfl, h, hW, fun _ => rfl, fun z => absurd rfl z⟩
      · rw [if_neg z3, if_neg (hm1 _), if_pos rfl, if_neg (show ¬ (k + 1 < row.length ∧ ¬ wl row (k + 1) < 0 ∧ wl row (k + 1) < lN s.1.2.length) from fun z => z3 z.1)]
        exact ⟨_, _, rfl, rfl, h, hW, fun _ => rfl, fun z => absurd rfl z⟩
    · rw [if_neg z2, if_neg z2]
      by_cases z5 : wl row k = -4
      · rw [if_pos z5, if_pos z5, h.1.1, within64 _ hn, ob_s]
        by_cases z3 : k + 1 < row.length
        · rw [if_pos z3]
          by_cases z4 : ¬ wl row (k + 1) < 0 ∧ wl row (k + 1) < lN s.1.1
          · obtain ⟨p, hp, e1, e2⟩ := lN_of_lt hn z4.1 z4.2
            rw [if_pos z4, if_neg ne10, if_pos ⟨z3, z4⟩, e1, lN32 p (by omega)]
            obtain ⟨x, e5, e6, e7, e8⟩ := leaves_12 h.1 h.2.1 hp
            rw [e5, ob_s, wb_tn (by omega)]
            refine ⟨_, _, rfl, e8.1 2 rfl, h.kq (s' := (_, _, _)) e8 e6 e7, hW.act WFw.left, fun z => absurd (show (2 : Nat) = 0 from z) (by decide), fun _ => ⟨by show nI k + nI 2 = _; rw [nI_add], by show k + 2 ≤ _; omega⟩⟩
          · rw [if_neg z4, if_pos rfl, if_neg (show ¬ (k + 1 < row.length ∧ ¬ wl row (k + 1) < 0 ∧ wl row (k + 1) < lN s.1.1) from fun z => z4 z.2)]
            exact ⟨_, _, rfl, rfl, h, hW, fun _ => rfl, fun z => absurd rfl z⟩
        · rw [if_neg z3, if_neg (hm1 _), if_pos rfl, if_neg (show ¬ (k + 1 < row.length ∧ ¬ wl row (k + 1) < 0 ∧ wl row (k + 1) < lN s.1.1) from fun z => z3 z.1)]
          exact ⟨_, _, rfl, rfl, h, hW, fun _ => rfl, fun z => absurd rfl z⟩
      · rw [if_neg z5, if_neg z5]
        by_cases z6 : wl row k = -3
        · rw [if_pos z6, if_pos z6]
          obtain ⟨x, e5, e6, e7, e8⟩ := duals_12 h.1 h.2.1
          rw [e5, ob_s, if_pos z6, if_neg ne10]
          exact ⟨_, _, rfl, e8.1 2 rfl, h.kq (s' := (_, _, _)) e8 e6 e7, hW.act (WFw.dual hl), fun z => absurd (show (1 : Nat) = 0 from z) (by decide), fun _ => ⟨by show nI k + nI 1 = _; rw [nI_add], by show k + 1 ≤ _; omega⟩⟩
        · rw [if_neg z6, if_neg z6, if_neg z6]
          by_cases z7 : wl row k = -5
          · have z8 : ¬ wl row k = -6 := fun z => lm.2.2.2.2.2.2.2.2.2.2.2.2.2.2.2 (z7.symm.trans z)
            rw [if_pos z7, if_pos z7]
            obtain ⟨g1, g2⟩ := undoes_12 h.1 h.2.1
            by_cases hb : s.2.1 = []
            · rw [g1 hb, ob_s]
              dsimp only
              rw [if_pos rfl, if_neg z8, if_pos trivial, hb]
              exact ⟨_, _, rfl, rfl, h, hW, fun _ => rfl, fun z => absurd rfl z⟩
            · obtain ⟨b0, v, e⟩ := snoc_of hb
              obtain ⟨x, e5, e6, e7, e8⟩ := g2 b0 v e
              rw [e5, ob_s]
              dsimp only
              rw [if_neg ne10, if_neg ne10, e, List.getLast?_concat, List.dropLast_concat]
              exact ⟨_, _, rfl, e8.1 2 rfl, h.kq (s' := (_, _, _)) e8 e6 e7, hW.undo e, fun z => absurd (show (1 : Nat) = 0 from z) (by decide), fun _ => ⟨by show nI k + nI 1 = _; rw [nI_add], by show k + 1 ≤ _; omega⟩⟩
          · rw [if_neg z7, if_neg z7]
            by_cases z8 : wl row k = -6
            · rw [if_pos z8, if_pos z8]
              obtain ⟨g1, g2⟩ := again_12 h.1 h.2.1
              by_cases hb : s.2.2 = []
              · rw [g1 hb, ob_s]
                dsimp only
                rw [if_pos rfl, if_pos trivial, hb]
                exact ⟨_, _, rfl, rfl, h, hW, fun _ => rfl, fun z => absurd rfl z⟩
              · obtain ⟨b0, v, e⟩ := snoc_of hb
                obtain ⟨x, e5, e6, e7, e8⟩ := g2 b0 v e
                rw [e5, ob_s]
                dsimp only
                rw [if_neg ne10, if_neg ne10, e, List.getLast?_concat, List.dropLast_concat]
                exact ⟨_, _, rfl, e8.1 2 rfl, h.kq (s' := (_, _, _)) e8 e6 e7, hW.again e, fun z => absurd (show (1 : Nat) = 0 from z) (by decide), fun _ => ⟨by show nI k + nI 1 = _; rw [nI_add], by show k + 1 ≤ _; omega⟩⟩
            · rw [if_neg z8, if_neg z8, if_pos trivial]
              exact ⟨_, _, rfl, rfl, h, hW, fun _ => rfl, fun z => absurd rfl z⟩
theorem perf_12 (hj : j < 4) (ht : tc j = some (so, row)) : ∀ (f k : Nat) (s : Wst) (st : OS) (b2 : Int32), row.length ≤ k + f → k ≤ row.length → RR st s tp hd wr wa ic tc → WFs s ic → ∃ r x, lpv (f_X12_perform_43 (nI j)) (st, b2, nI k) = some r ∧ (if r.2.2 = -1 then some (r.2.1, r.1) else some (r.2.2, r.1)) = some (nI (perfM row f k s).1, x) ∧ x.1 2 = st.1 2 ∧ RR x (perfM row f k s).2 tp hd wr wa ic tc ∧ WFs (perfM row f k s).2 ic := by
  intro f
  induction f with
  | zero =>
    intro k s st b2 h1 h2 h hW
    obtain ⟨t1, t2, t3, t4, t5⟩ := (h.2.2.2.2.1 j hj).2 so row ht
    refine ⟨(st, b2, nI k), st, ?_, ?_, rfl, h, hW⟩
    · apply lpv_out
      unfold f_X12_perform_43
      dsimp only
      rw [if_neg (nI_m1 (by omega)), if_pos (inb_t hj (by omega)), nI_clamp (by omega), t3, if_pos (nI_le (by omega) (by omega))]
    · rw [if_neg (nI_m1 (by omega))]
      rfl
  | succ f ih =>
    intro k s st b2 h1 h2 h hW
    obtain ⟨t1, t2, t3, t4, t5⟩ := (h.2.2.2.2.1 j hj).2 so row ht
    by_cases z : row.length ≤ k
    · refine ⟨(st, b2, nI k), st, ?_, ?_, rfl, ?_⟩
      · apply lpv_out
        unfold f_X12_perform_43
        dsimp only
        rw [if_neg (nI_m1 (by omega)), if_pos (inb_t hj (by omega)), nI_clamp (by omega), t3, if_pos (nI_le (by omega) (by omega))]
      · rw [if_neg (nI_m1 (by omega))]
        unfold perfM
        rw [if_pos z]
      · unfold perfM
        rw [if_pos z]
        exact ⟨h, hW⟩
    · obtain ⟨v, x, e, e2, e3, e4, e5, e6⟩ := does_12 (k := k) h hW hj ht (by omega)
      have e0 : f_X12_perform_43 (nI j) (st, b2, nI k) = some (.inl (x, nI k, v)) := by
        unfold f_X12_perform_43
        dsimp only
        rw [if_neg (nI_m1 (by omega)), if_pos (inb_t hj (by omega)), nI_clamp (by omega), t3, if_neg (nI_ge (by omega) (by omega)), e, ob_s]
      rw [lpv_in e0]
      unfold perfM
      rw [if_neg z]
      by_cases z2 : (actM row k s).1 = 0
      · rw [if_pos z2]
        have hs : (actM row k s).2 = s := actM_z z2
        rw [hs] at e3
        refine ⟨(x, nI k, v), x, ?_, ?_, e2, e3, hW⟩
        · apply lpv_out
          unfold f_X12_perform_43
          dsimp only
          rw [if_pos (e5 z2)]
        · rw [if_pos (e5 z2)]
      · rw [if_neg z2]
        obtain ⟨rfl, h9⟩ := e6 z2
        obtain ⟨r, y, g1, g2, g3, g4, g5⟩ := ih (k + (actM row k s).1) (actM row k s).2 x (nI k) (by omega) h9 e3 e4
        exact ⟨r, y, g1, g2, g3.trans e2, g4, g5⟩
theorem r_perform (h : RR st s tp hd wr wa ic tc) (hW : WFs s ic) (i : Int32) : ∃ v x, f_X12_perform st i = some (v, x) ∧ (∀ k, NoC 4 tc i k → x.1 2 = (if k = 0 then 1 else 2) ∧ RR x s tp hd wr wa ic tc) ∧ (∀ j so row, i = nI j → j < 4 → tc j = some (so, row) → x.1 2 = 0 ∧ v = nI (perfM row 40 0 s).1 ∧ RR x (perfM row 40 0 s).2 tp hd wr wa ic tc ∧ WFs (perfM row 40 0 s).2 ic) := by
  unfold f_X12_perform
  rw [isTray_12, ob_s]
  rcases out_or (i := i) (n := 4) with h1 | ⟨j, rfl, hj⟩
  · rw [if_pos h1, if_pos rfl]
    dsimp only [bnd]
    rw [ne_le, if_neg (show ¬ (1 : Int32) ≤ 0 by decide)]
    refine ⟨_, _, rfl, fun k hk => ?_, fun j so row e hj _ => ?_⟩
    · rcases hk with ⟨rfl, hk⟩ | ⟨rfl, j, e, hj, -⟩
      · exact ⟨ne_le 1, h.thr 1⟩
      · subst e; exact absurd h1 (in_not (by decide) hj)
    · subst e; exact absurd h1 (in_not (by decide) hj)
  · have h1 := in_not (n := 4) (by decide) hj
    rw [if_neg h1, if_neg ne10, if_pos (inb_t hj (by omega)), nI_clamp (by omega)]
    cases htc : tc j with
    | none =>
      rw [h.2.2.2.2.1.no hj htc, if_pos rfl]
      dsimp only [bnd]
      rw [ne_le, if_neg (show ¬ (2 : Int32) ≤ 0 by decide)]
      refine ⟨_, _, rfl, fun k hk => ?_, fun j2 so row e hj2 z => ?_⟩
      · rcases hk with ⟨rfl, hk⟩ | ⟨rfl, -⟩
        · exact absurd hk (fun y => h1 (y.imp id (fun z => Int32.not_lt.mp z)))
        · exact ⟨ne_le 2, h.thr 2⟩
      · have := (nI_eq (by omega) (by omega)).mp e
        subst this
        rw [htc] at z; cases z
    | some t =>
      obtain ⟨so, row⟩ := t
      obtain ⟨t1, t2, t3, t4, t5⟩ := (h.2.2.2.2.1 j hj).2 so row htc
      rw [t1, if_neg (sort_ne t2)]
      dsimp only [bnd]
      rw [ne_le, if_pos (show (0 : Int32) ≤ 0 by decide)]
      obtain ⟨r, x, g1, g2, g3, g4, g5⟩ := perf_12 hj htc 40 0 s (oI st 2 0) 0 (by omega) (Nat.zero_le _) (h.thr 0) hW
      rw [show ((oI st 2 0, 0, 0) : OS × Int32 × Int32) = (oI st 2 0, 0, nI 0) from rfl, g1, ob_s]
      obtain ⟨r1, r2, r3⟩ := r
      dsimp only at g2 ⊢
      refine ⟨_, _, g2, fun k hk => ?_, fun j2 so2 row2 e hj2 z => ?_⟩
      · rcases hk with ⟨rfl, hk⟩ | ⟨rfl, j2, e, hj2, z⟩
        · exact absurd hk (fun y => h1 (y.imp id (fun z => Int32.not_lt.mp z)))
        · have := (nI_eq (by omega) (by omega)).mp e
          subst this
          rw [htc] at z; cases z
      · have := (nI_eq (by omega) (by omega)).mp e
        subst this
        rw [htc] at z
        cases z
        exact ⟨g3.trans (ne_le 0), rfl, g4, g5⟩
end PERF
section AGP
variable {l : Launch} {G : mG} {a b ao : Nat}
theorem ag_perform (hst : l.stackTraces = false) : Ag_perform l G (LJ G a b ao) a b ao := by
  intro m p0 hJ
  obtain ⟨s, tp, hd, wr, wa, ic, tc, q, st, fo, ⟨ow, F, qt, rfl, rfl, N, hA, hC, hb, ho⟩, hR, hW⟩ := hJ
  obtain ⟨v, x, hF, hX1, hX2⟩ := r_perform hR hW p0
  obtain ⟨fs, hroot⟩ := N.root
  refine ⟨_, c_L_perform hroot (n_X11_perform hst N) (fo := fo) (fun v1 m1 ⟨_, _, _, _, _, _, _, z⟩ => (LR.ntp hA hC hb ho z).out1) (fun E m1 z => NoC.E z.1), fun r m9 hp => ?_⟩
  rcases hp with ⟨rfl, v1, m1, ⟨j, so, row, e1, e2, e3, rfl, e7⟩, rfl⟩ | ⟨E, ⟨⟨k, e1, e2⟩, e3⟩, e4⟩
  · obtain ⟨h1, h2, hX, hW2⟩ := hX2 j so row e1 e2 e3
    obtain ⟨f1, f2, f3, f4, f5⟩ := (LR.ntp hA hC hb ho e7).out (fo' := vp_updL fo 0 ((nI (perfM row 40 0 s).1).toInt64)) |>.fin hX hW2
    exact ⟨q, st, x, _, _, f1, f2, f3, hF, h1, f4, fun _ => by rw [h2]; simp [vp_updL], f5⟩
  · subst e3
    obtain ⟨h1, hX⟩ := hX1 k e2
    obtain ⟨f1, f2, f3, f4, f5⟩ := (LR.ntp hA hC hb ho (NTP.rf N)).fin hX hW
    rcases e2.ex with rfl | rfl
    · rcases e4 with ⟨e4, rfl⟩ | ⟨e4, rfl⟩
      · exact ⟨q, st, x, v, fo, f1, f2, f3, hF, h1, f4, fun z => absurd z (by decide), f5⟩
      · exact absurd (e1.symm.trans e4) ex02
    · rcases e4 with ⟨e4, rfl⟩ | ⟨e4, rfl⟩
      · exact absurd (e1.symm.trans e4) ex20
      · exact ⟨q, st, x, v, fo, f1, f2, f3, hF, h1, f4, fun z => absurd z (by decide), f5⟩
theorem ag_write (hst : l.stackTraces = false) : Ag_write l G (LJ G a b ao) a b ao := by
  intro m p0 p1 p2 hJ
  obtain ⟨s, tp, hd, wr, wa, ic, tc, q, st, fo, ⟨ow, F, qt, rfl, rfl, N, hA, hC, hb, ho⟩, hR, hW⟩ := hJ
  obtain ⟨v, x, hF, hX1, hX2, hX3⟩ := r_write hR p0 p1 p2
  obtain ⟨fs, hroot⟩ := N.root
  refine ⟨_, c_L_write hroot (n_X11_write hst N) (fo := fo) (fun v1 m1 ⟨_, _, _, _, _, _, _, _, _, _, _, _, z⟩ => (LR.ntp hA hC hb ho z).out1) (fun E m1 z => ?_), fun r m9 hp => ?_⟩
  · obtain ⟨⟨k, e1, e2 | ⟨rfl, -⟩⟩, -⟩ := z
    · exact (NoC.E ⟨k, e1, e2⟩).elim Or.inl (fun y => Or.inr (Or.inl y))
    · exact Or.inr (Or.inr e1)
  · rcases hp with ⟨rfl, v1, m1, ⟨j, so, p, row, e1, e2, e3, e4, e5, e6, e8, rfl, e7⟩, rfl⟩ | ⟨E, ⟨⟨k, e1, e2⟩, e3⟩, e4⟩
    · obtain ⟨h1, h2, hX⟩ := hX3 j so row p e1 e2 e3 e6 e8
      obtain ⟨f1, f2, f3, f4, f5⟩ := (LR.ntp hA hC hb ho e7).out (fo' := vp_updL fo 0 (cutM so p2)) |>.fin hX hW
      exact ⟨q, st, x, _, _, f1, f2, f3, hF, h1, f4, fun _ => by rw [h2]; simp [vp_updL], f5⟩
    · subst e3
      rcases e2 with e2 | ⟨rfl, j, so, row, b1, b2, b3, b4, b5⟩
      · obtain ⟨h1, hX⟩ := hX1 k e2
        obtain ⟨f1, f2, f3, f4, f5⟩ := (LR.ntp hA hC hb ho (NTP.rf N)).fin hX hW
        rcases e2.ex with rfl | rfl
        · rcases e4 with ⟨e4, rfl⟩ | ⟨e4, rfl⟩ | ⟨e4, rfl⟩
          · exact ⟨q, st, x, v, fo, f1, f2, f3, hF, h1, f4, fun z => absurd z (by decide), f5⟩
          · exact absurd (e1.symm.trans e4) ex02
          · exact absurd (e1.symm.trans e4) (by decide)
        · rcases e4 with ⟨e4, rfl⟩ | ⟨e4, rfl⟩ | ⟨e4, rfl⟩
          · exact absurd (e1.symm.trans e4) ex20
          · exact ⟨q, st, x, v, fo, f1, f2, f3, hF, h1, f4, fun z => absurd z (by decide), f5⟩
          · exact absurd (e1.symm.trans e4) (by decide)
      · obtain ⟨h1, hX⟩ := hX2 j so row b1 b2 b3 b5
        obtain ⟨f1, f2, f3, f4, f5⟩ := (LR.ntp hA hC hb ho (NTP.rf N)).fin hX hW
        rcases e4 with ⟨e4, rfl⟩ | ⟨e4, rfl⟩ | ⟨e4, rfl⟩
        · exact absurd (e1.symm.trans e4) (by decide)
        · exact absurd (e1.symm.trans e4) (by decide)
        · exact ⟨q, st, x, v, fo, f1, f2, f3, hF, h1, f4, fun z => absurd z (by decide), f5⟩
end AGP
