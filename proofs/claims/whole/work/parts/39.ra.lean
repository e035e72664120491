section RRA
variable {st x : OS} {s s' : Wst} {tp : Nat → Int32} {hd : Nat} {wr wa : Int32} {ic : Nat → Option Wd} {tc : Nat → Option (Nat × List Int64)}
theorem cut_12 {st : OS} {j p so : Nat} (hj : j < 4) (hp : p < 40) (hs : st.2.2.1 46 j = nI so) (hso : so ≤ 3) (v : Int64) : f_X12_cut st (nI j) (nI p) v = some (cutM so v, oB st 48 (vp_updL (st.2.2.2 48) (40 * j + p) (cutM so v))) := by
  unfold f_X12_cut
  dsimp only [bnd]
  rw [if_pos (inb_t (by omega) (by omega)), i40m, if_pos (inb_t (by omega) (by omega)), nI_clamp (by omega), nI_clamp (by omega), hs, cutM_sh v hso, oB_self]
  show some (vp_updL _ _ _ _, _) = _
  unfold vp_updL
  rw [if_pos rfl]
theorem oAA_id (st : OS) : oA (oA st 46 (st.2.2.1 46)) 47 (st.2.2.1 47) = st := by
  rw [oA_id, oA_id]
/-- a number of a tray is written -/
theorem RR.set (h : RR st s tp hd wr wa ic tc) {j p so : Nat} {row : List Int64} (hj : j < 4) (ht : tc j = some (so, row)) (hp : p < row.length) (v : Int64) : RR (oB st 48 (vp_updL (st.2.2.2 48) (40 * j + p) v)) s tp hd wr wa ic (va_up tc j (some (so, row.set p v))) := by
  obtain ⟨t1, t2, t3, t4, t5⟩ := (h.2.2.2.2.1 j hj).2 so row ht
  have := h.tray hj t2 (row := row.set p v) (by rw [List.length_set]; exact t4) (st.2.2.1 46) (st.2.2.1 47) (vp_updL (st.2.2.2 48) (40 * j + p) v) t1 (by rw [List.length_set]; exact t3) (fun i hi => ?_) (fun _ _ => rfl) (fun _ _ => rfl) (fun k i hk hi => ?_)
  · rw [oAA_id] at this
    exact this
  · rw [List.length_set] at hi
    rw [wl_set hp]
    unfold vp_updL
    by_cases hi2 : i = p
    · rw [if_pos hi2, if_pos (by omega)]
    · rw [if_neg hi2, if_neg (by omega)]
      exact t5 i hi
  · unfold vp_updL
    rw [if_neg (by omega)]
theorem r_write (h : RR st s tp hd wr wa ic tc) (i p : Int32) (v : Int64) : ∃ r x, f_X12_write st i p v = some (r, x) ∧ (∀ k, NoC 4 tc i k → x.1 2 = (if k = 0 then 1 else 2) ∧ RR x s tp hd wr wa ic tc) ∧
    (∀ j so row, i = nI j → j < 4 → tc j = some (so, row) → (p < 0 ∨ nI row.length ≤ p) → x.1 2 = 3 ∧ RR x s tp hd wr wa ic tc) ∧
    (∀ j so row q, i = nI j → j < 4 → tc j = some (so, row) → p = nI q → q < row.length → x.1 2 = 0 ∧ r = cutM so v ∧ RR x s tp hd wr wa ic (va_up tc j (some (so, row.set q (cutM so v))))) := by
  have h0 := h.thr 0
  unfold f_X12_write
  dsimp only [bnd]
  rw [isTray_12, ob_s]
  rcases out_or (i := i) (n := 4) with h1 | ⟨j, rfl, hj⟩
  · rw [if_pos h1, if_pos rfl]
    have hno : ∀ j, i = nI j → j < 4 → False := fun j e hj => by subst e; exact absurd h1 (in_not (by decide) hj)
    refine ⟨_, _, rfl, fun k hk => ?_, fun j _ _ e hj => (hno j e hj).elim, fun j _ _ _ e hj => (hno j e hj).elim⟩
    rcases hk with ⟨rfl, -⟩ | ⟨-, j, e, hj, -⟩
    · exact ⟨ne_le 1, h0.thr 1⟩
    · exact (hno j e hj).elim
  · have h1 := in_not (n := 4) (by decide) hj
    rw [if_neg h1, if_neg (show ¬ (1 : Int32) = 0 by decide), if_pos (inb_t (by omega) (by omega)), nI_clamp (by omega)]
    have hj2 : ∀ j2, nI j = nI j2 → j2 < 4 → j2 = j := fun j2 e h2 => ((nI_eq (by omega) (by omega)).mp e).symm
    cases ht : tc j with
    | none =>
      rw [show (oI st 2 0).2.2.1 46 j = -1 from (h.2.2.2.2.1 j hj).1 ht, if_pos rfl]
      refine ⟨_, _, rfl, fun k hk => ?_, fun j2 _ _ e hjj e2 => ?_, fun j2 _ _ _ e hjj e2 => ?_⟩
      · rcases hk with ⟨-, z⟩ | ⟨rfl, j2, -⟩
        · exact (z.elim (nI_pos (by omega)) (fun z => z (nI_lt hj (by decide)))).elim
        · exact ⟨ne_le 2, h0.thr 2⟩
      · rw [hj2 j2 e hjj, ht] at e2; cases e2
      · rw [hj2 j2 e hjj, ht] at e2; cases e2
    | some c =>
      obtain ⟨so, row⟩ := c
      obtain ⟨t1, t2, t3, t4, t5⟩ := (h.2.2.2.2.1 j hj).2 so row ht
      have hno : ∀ k, ¬ NoC 4 tc (nI j) k := fun k hk => by
        rcases hk with ⟨-, z⟩ | ⟨-, j2, e, hjj, e2⟩
        · exact z.elim (nI_pos (by omega)) (fun z => z (nI_lt hj (by decide)))
        · rw [hj2 j2 e hjj, ht] at e2; cases e2
      have e46 : (oI st 2 0).2.2.1 46 j = nI so := t1
      have e47 : (oI st 2 0).2.2.1 47 j = nI row.length := t3
      rw [e46, e47, if_neg (sort_ne t2), within_12 p (by omega), ob_s]
      rcases out_or (i := p) (n := row.length) with h2 | ⟨q, rfl, hq⟩
      · rw [if_pos h2, if_pos rfl]
        refine ⟨_, _, rfl, fun k hk => absurd hk (hno k), fun j2 _ _ e hjj e2 _ => ⟨ne_le 3, h0.thr 3⟩, fun j2 so2 row2 q e hjj e2 e3 hq => ?_⟩
        rw [hj2 j2 e hjj, ht] at e2
        cases e2
        subst e3
        exact absurd h2 (in_not (by omega) hq)
      · have h2 := in_not (n := row.length) (by omega) hq
        rw [if_neg h2, if_neg (show ¬ (1 : Int32) = 0 by decide), cut_12 (st := oI st 2 0) hj (by omega) t1 t2 v, ob_s]
        refine ⟨_, _, rfl, fun k hk => absurd hk (hno k), fun j2 so2 row2 e hjj e2 z => ?_, fun j2 so2 row2 q2 e hjj e2 e3 hq2 => ?_⟩
        · rw [hj2 j2 e hjj, ht] at e2
          cases e2
          exact absurd z h2
        · have ej := hj2 j2 e hjj
          subst ej
          rw [ht] at e2
          cases e2
          have eq := (nI_eq (by omega) (by omega)).mp e3
          subst eq
          exact ⟨ne_le (st := st) 0, rfl, h0.set hj ht hq _⟩
theorem r_pour (h : RR st s tp hd wr wa ic tc) (i : Int32) : ∃ r x, f_X12_pour st i = some (r, x) ∧ (∀ k, NoC 4 tc i k → x.1 2 = (if k = 0 then 1 else 2) ∧ RR x s tp hd wr wa ic tc) ∧
    (∀ j so row, i = nI j → j < 4 → tc j = some (so, row) → x.1 2 = 0 ∧ r = nI (min row.length s.1.2.length) ∧ RR x s tp hd wr wa ic (va_up tc j (some (so, pourM so row s.1.2)))) := by
  unfold f_X12_pour
  rw [isTray_12, ob_s]
  rcases out_or (i := i) (n := 4) with h1 | ⟨j, rfl, hj⟩
  · rw [if_pos h1, if_pos rfl]
    dsimp only [bnd]
    rw [ne_le, if_neg (show ¬ (1 : Int32) ≤ 0 by decide)]
    have hno : ∀ j, i = nI j → j < 4 → False := fun j e hj => by subst e; exact absurd h1 (in_not (by decide) hj)
    refine ⟨_, _, rfl, fun k hk => ?_, fun j _ _ e hj => (hno j e hj).elim⟩
    rcases hk with ⟨rfl, -⟩ | ⟨-, j, e, hj, -⟩
    · exact ⟨ne_le 1, h.thr 1⟩
    · exact (hno j e hj).elim
  · have h1 := in_not (n := 4) (by decide) hj
    rw [if_neg h1, if_neg (show ¬ (1 : Int32) = 0 by decide), if_pos (inb_t (by omega) (by omega)), nI_clamp (by omega)]
    have hj2 : ∀ j2, nI j = nI j2 → j2 < 4 → j2 = j := fun j2 e h2 => ((nI_eq (by omega) (by omega)).mp e).symm
    cases ht : tc j with
    | none =>
      rw [if_pos ((h.2.2.2.2.1 j hj).1 ht)]
      dsimp only [bnd]
      rw [ne_le, if_neg (show ¬ (2 : Int32) ≤ 0 by decide)]
      refine ⟨_, _, rfl, fun k hk => ?_, fun j2 _ _ e hjj e2 => ?_⟩
      · rcases hk with ⟨-, z⟩ | ⟨rfl, j2, -⟩
        · exact (z.elim (nI_pos (by omega)) (fun z => z (nI_lt hj (by decide)))).elim
        · exact ⟨ne_le 2, h.thr 2⟩
      · rw [hj2 j2 e hjj, ht] at e2; cases e2
    | some c =>
      obtain ⟨so, row⟩ := c
      obtain ⟨t1, t2, t3, t4, t5⟩ := (h.2.2.2.2.1 j hj).2 so row ht
      have hl := h.1.2.2.2.1
      have hno : ∀ k, ¬ NoC 4 tc (nI j) k := fun k hk => by
        rcases hk with ⟨-, z⟩ | ⟨-, j2, e, hjj, e2⟩
        · exact z.elim (nI_pos (by omega)) (fun z => z (nI_lt hj (by decide)))
        · rw [hj2 j2 e hjj, ht] at e2; cases e2
      rw [t1, if_neg (sort_ne t2)]
      dsimp only [bnd]
      have e47 : (oI st 2 0).2.2.1 47 j = nI row.length := t3
      rw [ne_le, if_pos (show (0 : Int32) ≤ 0 by decide), e47, show (oI st 2 0).1 1 = nI s.1.2.length from (h.thr 0).1.2.1, min_J9]
      have emin : (if nI row.length < nI s.1.2.length then nI row.length else nI s.1.2.length) = nI (min row.length s.1.2.length) := by
        rcases Nat.lt_or_ge row.length s.1.2.length with z | z
        · rw [if_pos (nI_lt z (by omega)), Nat.min_eq_left (by omega)]
        · rw [if_neg (nI_nlt z (by omega)), Nat.min_eq_right z]
      rw [emin, ob_s]
      have key : ∃ x, lpv (f_X12_pour_55 (nI j) (nI (min row.length s.1.2.length))) (oI st 2 0, 0) = some x ∧ x.1 2 = 0 ∧ RR x s tp hd wr wa ic (va_up tc j (some (so, pourM so row s.1.2))) := by
        refine lpv_inv (fun i z => z.2 = nI i ∧ z.1.1 2 = 0 ∧ ∃ r2, RR z.1 s tp hd wr wa ic (va_up tc j (some (so, r2))) ∧ r2.length = row.length ∧ ∀ k, k < row.length → wl r2 k = if k < i then cutM so (wl s.1.2 k) else wl row k) (min row.length s.1.2.length) _ (fun i z hi hI => Or.inl ?_) (fun z hI => ?_) 0 _ (Nat.zero_le _) ⟨rfl, ne_le 0, row, ?_, rfl, fun k _ => rfl⟩
        · obtain ⟨y, b⟩ := z
          obtain ⟨rfl, hy2, r2, g1, g2, g3⟩ := hI
          have hu : va_up tc j (some (so, r2)) j = some (so, r2) := by simp only [va_up, if_true]
          obtain ⟨u1, u2, u3, u4, u5⟩ := (g1.2.2.2.2.1 j hj).2 so r2 hu
          refine ⟨(oB y 48 (vp_updL (y.2.2.2 48) (40 * j + i) (cutM so (wl s.1.2 i))), nI (i + 1)), ?_, rfl, hy2, r2.set i (cutM so (wl s.1.2 i)), ?_, by rw [List.length_set]; exact g2, fun k hk => ?_⟩
          · unfold f_X12_pour_55
            dsimp only [bnd]
            rw [if_neg (nI_ge hi (by omega)), if_pos (inb_t (by omega) (by omega)), nI_clamp (by omega), g1.1.2.2.2.2 i (by omega), cut_12 hj (by omega) u1 u2, ob_s, nI_1]
          · have := g1.set hj hu (p := i) (by omega) (cutM so (wl s.1.2 i))
            have e : va_up (va_up tc j (some (so, r2))) j (some (so, r2.set i (cutM so (wl s.1.2 i)))) = va_up tc j (some (so, r2.set i (cutM so (wl s.1.2 i)))) := by
              funext k
              unfold va_up
              split <;> rfl
            rw [e] at this
            exact this
          · rw [wl_set (by omega)]
            by_cases hji : k = i
            · rw [if_pos hji, if_pos (by omega), hji]
            · rw [if_neg hji, g3 k hk]
              by_cases hj2 : k < i
              · rw [if_pos hj2, if_pos (by omega)]
              · rw [if_neg hj2, if_neg (by omega)]
        · obtain ⟨y, b⟩ := z
          obtain ⟨rfl, hy2, r2, g1, g2, g3⟩ := hI
          refine ⟨y, ?_, hy2, ?_⟩
          · unfold f_X12_pour_55
            dsimp only
            rw [if_pos (nI_le (Nat.le_refl _) (by omega))]
          · have e : r2 = pourM so row s.1.2 := by
              refine List.ext_getElem? (fun k => ?_)
              rcases Nat.lt_or_ge k row.length with hk | hk
              · rw [wl_lt (by rw [g2]; exact hk), wl_lt (by rw [pourM_len]; exact hk), g3 k hk, wl_pour _ _ _ hk]
                by_cases hk2 : k < s.1.2.length
                · rw [if_pos hk2, if_pos (by omega)]
                · rw [if_neg hk2, if_neg (by omega)]
              · rw [List.getElem?_eq_none (by omega), List.getElem?_eq_none (by rw [pourM_len]; exact hk)]
            rw [← e]
            exact g1
        · have e : va_up tc j (some (so, row)) = tc := by
            funext k
            unfold va_up
            split
            · rename_i hk; rw [hk, ht]
            · rfl
          rw [e]
          exact h.thr 0
      obtain ⟨x, e, k1, k2⟩ := key
      rw [e, ob_s]
      refine ⟨_, _, rfl, fun k hk => absurd hk (hno k), fun j2 so2 row2 e hjj e2 => ?_⟩
      have ej := hj2 j2 e hjj
      subst ej
      rw [ht] at e2
      cases e2
      exact ⟨k1, rfl, k2⟩
theorem r_image (h : RR st s tp hd wr wa ic tc) (i : Int32) : ∃ x, f_X12_image st i = some x ∧ ((i < 0 ∨ ¬ i < 3) → x.1 2 = 1 ∧ RR x s tp hd wr wa ic tc) ∧ (∀ j, i = nI j → j < 3 → x.1 2 = 0 ∧ RR x s tp hd wr wa (va_up ic j (some s.1)) tc) := by
  have hw := within_12 i (n := 3) (by decide)
  rw [show (((nI 3) - 1 : Int32).toInt64) = 2 by decide +kernel] at hw
  unfold f_X12_image
  rw [hw, ob_s]
  rcases out_or (i := i) (n := 3) with h1 | ⟨j, rfl, hj⟩
  · rw [if_pos h1, if_pos rfl]
    dsimp only [bnd]
    rw [ne_le, if_neg (show ¬ (1 : Int32) ≤ 0 by decide)]
    exact ⟨_, rfl, fun _ => ⟨ne_le 1, h.thr 1⟩, fun j e hj => by subst e; exact absurd h1 (in_not (by decide) hj)⟩
  · have h1 := in_not (n := 3) (by decide) hj
    have h0 := h.thr 0
    rw [if_neg h1, if_neg (show ¬ (1 : Int32) = 0 by decide)]
    dsimp only [bnd]
    rw [ne_le, if_pos (show (0 : Int32) ≤ 0 by decide), if_pos (inb_t (by omega) (by omega)), nI_clamp (by omega)]
    generalize hz : upd ((oI st 2 0).2.2.1 49) j (vp_nar .boolean 1) = g49
    have hw1 : RWo (oA (oI st 2 0) 49 g49) s.1.1 s.1.2 := h0.1.cong rfl rfl rfl
    rw [keeps_12 hw1 (by omega) (by omega) (by omega) (by omega) (by decide) (by decide), ob_s]
    refine ⟨_, rfl, fun z => ?_, fun j2 e hjj => ?_⟩
    · exact (z.elim (nI_pos (by omega)) (fun z => z (nI_lt (b := 3) hj (by decide)))).elim
    · have ej := (nI_eq (by omega) (by omega)).mp e
      subst ej
      obtain ⟨g1, ⟨a2, a3, a4, a5, a6⟩, g3, g4, g5, g6⟩ := h0
      generalize hX : oB (oA (oA (oA (oI st 2 0) 49 g49) 50 _) 51 _) 52 _ = X
      have eI : X.1 = (oI st 2 0).1 := by rw [← hX]; rfl
      have eA : ∀ k, k ≠ 49 → k ≠ 50 → k ≠ 51 → X.2.2.1 k = (oI st 2 0).2.2.1 k := fun k h1 h2 h3 => by rw [← hX, oB_A, oA_ne _ h3, oA_ne _ h2, oA_ne _ h1]
      have eB : ∀ k, k ≠ 52 → X.2.2.2 k = (oI st 2 0).2.2.2 k := fun k h1 => by rw [← hX, oB_ne _ h1]; rfl
      have e49 : X.2.2.1 49 = g49 := by rw [← hX, oB_A, oA_ne _ (by decide), oA_ne _ (by decide), oA_self]
      have e50 : X.2.2.1 50 = upd ((oI st 2 0).2.2.1 50) j (nI s.1.1) := by rw [← hX, oB_A, oA_ne _ (by decide), oA_self, oA_ne _ (by decide)]
      have e51 : X.2.2.1 51 = upd ((oI st 2 0).2.2.1 51) j (nI s.1.2.length) := by rw [← hX, oB_A, oA_self, oA_ne _ (by decide)]
      have e52 : X.2.2.2 52 = putB ((oI st 2 0).2.2.2 52) j s.1.2 s.1.2.length := by rw [← hX, oB_self]; rfl
      refine ⟨by rw [eI]; exact ne_le 0, g1.cong (by rw [eI]) (by rw [eI]) (eB 3 (by decide)), ⟨by rw [eI]; exact a2, by rw [eI]; exact a3, a4, ?_, ?_⟩, ⟨by rw [eI]; exact g3.1, g3.2.1, fun i hi => by rw [eA 4 (by decide) (by decide) (by decide)]; exact g3.2.2 i hi⟩, ⟨by rw [eI]; exact g4.1, by rw [eI]; exact g4.2⟩, g5.cong (eA _ (by decide) (by decide) (by decide)) (eA _ (by decide) (by decide) (by decide)) (eB _ (by decide)), fun k hk => ?_⟩
      · rw [eA 40 (by decide) (by decide) (by decide), eA 41 (by decide) (by decide) (by decide), eB 38 (by decide)]; exact a5
      · rw [eA 42 (by decide) (by decide) (by decide), eA 43 (by decide) (by decide) (by decide), eB 39 (by decide)]; exact a6
      · rw [e49, e50, e51, e52, ← hz]
        by_cases hkj : k = j
        · subst hkj
          simp only [va_up, if_true]
          refine ⟨fun z => (by cases z), fun w z => ?_⟩
          cases z
          refine ⟨by unfold upd; rw [if_pos rfl]; decide, by unfold upd; rw [if_pos rfl], by unfold upd; rw [if_pos rfl], h.1.2.2.1, h.1.2.2.2.1, fun i hi => ?_⟩
          unfold putB
          rw [if_pos (by omega)]
          congr 1
          omega
        · simp only [va_up, if_neg hkj]
          refine ⟨fun z => by unfold upd; rw [if_neg hkj]; exact (g6 k hk).1 z, fun w z => ?_⟩
          obtain ⟨p1, p2, p3, p4, p5, p6⟩ := (g6 k hk).2 w z
          refine ⟨by unfold upd; rw [if_neg hkj]; exact p1, by unfold upd; rw [if_neg hkj]; exact p2, by unfold upd; rw [if_neg hkj]; exact p3, p4, p5, fun i hi => ?_⟩
          unfold putB
          have := h.1.2.2.2.1
          rw [if_neg (by omega)]
          exact p6 i hi
theorem r_restore (h : RR st s tp hd wr wa ic tc) (i : Int32) : ∃ x, f_X12_restore st i = some x ∧ (∀ k, NoC 3 ic i k → x.1 2 = (if k = 0 then 1 else 2) ∧ RR x s tp hd wr wa ic tc) ∧ (∀ j w, i = nI j → j < 3 → ic j = some w → x.1 2 = 0 ∧ RR x (w, [], []) tp hd wr wa ic tc) := by
  have hw := within_12 i (n := 3) (by decide)
  rw [show (((nI 3) - 1 : Int32).toInt64) = 2 by decide +kernel] at hw
  unfold f_X12_restore
  rw [hw, ob_s]
  rcases out_or (i := i) (n := 3) with h1 | ⟨j, rfl, hj⟩
  · rw [if_pos h1, if_pos rfl]
    dsimp only [bnd]
    rw [ne_le, if_neg (show ¬ (1 : Int32) ≤ 0 by decide)]
    have hno : ∀ j, i = nI j → j < 3 → False := fun j e hj => by subst e; exact absurd h1 (in_not (by decide) hj)
    refine ⟨_, rfl, fun k hk => ?_, fun j _ e hj => (hno j e hj).elim⟩
    rcases hk with ⟨rfl, -⟩ | ⟨-, j, e, hj, -⟩
    · exact ⟨ne_le 1, h.thr 1⟩
    · exact (hno j e hj).elim
  · have h1 := in_not (n := 3) (by decide) hj
    have h0 := h.thr 0
    rw [if_neg h1, if_neg (show ¬ (1 : Int32) = 0 by decide), if_pos (inb_t (by omega) (by omega)), nI_clamp (by omega)]
    have hj2 : ∀ j2, nI j = nI j2 → j2 < 3 → j2 = j := fun j2 e h2 => ((nI_eq (by omega) (by omega)).mp e).symm
    cases ht : ic j with
    | none =>
      rw [if_pos ((h.2.2.2.2.2 j hj).1 ht)]
      dsimp only [bnd]
      rw [ne_le, if_neg (show ¬ (2 : Int32) ≤ 0 by decide)]
      refine ⟨_, rfl, fun k hk => ?_, fun j2 _ e hjj e2 => ?_⟩
      · rcases hk with ⟨-, z⟩ | ⟨rfl, j2, -⟩
        · exact (z.elim (nI_pos (by omega)) (fun z => z (nI_lt hj (by decide)))).elim
        · exact ⟨ne_le 2, h.thr 2⟩
      · rw [hj2 j2 e hjj, ht] at e2; cases e2
    | some w =>
      obtain ⟨t1, t2⟩ := (h.2.2.2.2.2 j hj).2 w ht
      have hno : ∀ k, ¬ NoC 3 ic (nI j) k := fun k hk => by
        rcases hk with ⟨-, z⟩ | ⟨-, j2, e, hjj, e2⟩
        · exact z.elim (nI_pos (by omega)) (fun z => z (nI_lt hj (by decide)))
        · rw [hj2 j2 e hjj, ht] at e2; cases e2
      rw [if_neg t1]
      dsimp only [bnd]
      rw [ne_le, if_pos (show (0 : Int32) ≤ 0 by decide)]
      obtain ⟨g, e, hg⟩ := takes_12 (st := oI st 2 0) (a0 := 52) (na0 := 192) (a1 := 50) (na1 := 3) (a2 := 51) (na2 := 3) t2 (by omega) (by omega) (by omega) (by omega) (by decide)
      rw [e, ob_s]
      refine ⟨_, rfl, fun k hk => absurd hk (hno k), fun j2 w2 e hjj e2 => ?_⟩
      rw [hj2 j2 e hjj, ht] at e2
      cases e2
      refine ⟨ne_le (st := st) 0, h0.kq (s' := (w, [], [])) ?_ ?_ ?_⟩
      · exact ((((Keep.rf.oI rfl).oI rfl).oB rfl).oI rfl).oI rfl
      · refine ⟨?_, ?_, t2.2.2.1, t2.2.2.2.1, fun i hi => ?_⟩
        · rw [oI_ne _ (by decide), oI_ne _ (by decide), oB_1, oI_ne _ (by decide), oI_self]
        · rw [oI_ne _ (by decide), oI_ne _ (by decide), oB_1, oI_self]
        · rw [oI_2, oI_2, oB_self]
          exact hg i hi
      · refine ⟨?_, ?_, by simp, fun k w h => by simp at h, fun k w h => by simp at h⟩
        · rw [oI_ne _ (by decide), oI_self]; rfl
        · rw [oI_self]; rfl
end RRA
