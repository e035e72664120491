/-! the reference's trays and images -/
theorem tb_shs (v : Int64) {k : Nat} (hk : k < 64) (i : Nat) (hi : i < 64) : tb ((v <<< ((nI k).toInt64 &&& 63)) >>> ((nI k).toInt64 &&& 63)) i = tb v (if k + i < 64 then i else 63 - k) := by
  unfold tb
  rw [wb_c k hk]
  have e : (lN k).toBitVec.smod 64 = BitVec.ofNat 64 k := wb_sm k hk
  rw [Int64.toBitVec_shiftRight, Int64.toBitVec_shiftLeft, e, BitVec.sshiftRight_eq', BitVec.getLsbD_sshiftRight, BitVec.shiftLeft_eq', BitVec.toNat_ofNat, Nat.mod_eq_of_lt (show k < 2 ^ 64 by omega), BitVec.msb_eq_getLsbD_last]
  by_cases h : k + i < 64
  · rw [if_pos h, if_pos h, BitVec.getLsbD_shiftLeft]
    simp [show ¬ 64 ≤ i by omega, show ¬ k + i < k by omega, h]
  · rw [if_neg h, if_neg h, BitVec.getLsbD_shiftLeft]
    simp [hi, show ¬ 63 < k by omega]
theorem tb_c32 (v : Int64) (i : Nat) (hi : i < 64) : tb ((v : Int64).toInt32 : Int32).toInt64 i = tb v (if i < 32 then i else 31) := by
  unfold tb
  rw [Int32.toBitVec_toInt64, Int64.toBitVec_toInt32]
  simp only [BitVec.getLsbD_signExtend, BitVec.msb_eq_getLsbD_last]
  by_cases h : i < 32
  · simp [h, hi]
  · simp [h, hi]
theorem tb_c16 (v : Int64) (i : Nat) (hi : i < 64) : tb (((v : Int64).toInt32 : Int32).toInt16.toInt32 : Int32).toInt64 i = tb v (if i < 16 then i else 15) := by
  unfold tb
  rw [Int32.toBitVec_toInt64, Int16.toBitVec_toInt32, Int32.toBitVec_toInt16, Int64.toBitVec_toInt32]
  simp only [BitVec.getLsbD_signExtend, BitVec.msb_eq_getLsbD_last]
  by_cases h : i < 16
  · simp [h, hi, show i < 32 by omega]
  · by_cases h2 : i < 32 <;> simp [h, hi, h2]
theorem tb_c8 (v : Int64) (i : Nat) (hi : i < 64) : tb (((v : Int64).toInt32 : Int32).toInt8.toInt32 : Int32).toInt64 i = tb v (if i < 8 then i else 7) := by
  unfold tb
  rw [Int32.toBitVec_toInt64, Int8.toBitVec_toInt32, Int32.toBitVec_toInt8, Int64.toBitVec_toInt32]
  simp only [BitVec.getLsbD_signExtend, BitVec.msb_eq_getLsbD_last]
  by_cases h : i < 8
  · simp [h, hi, show i < 32 by omega]
  · by_cases h2 : i < 32 <;> simp [h, hi, h2]
theorem cutM_sh (v : Int64) {so : Nat} (hso : so ≤ 3) : (v <<< (((64 : Int32) - ((8 : Int32) <<< (nI so &&& 31))).toInt64 &&& 63)) >>> (((64 : Int32) - ((8 : Int32) <<< (nI so &&& 31))).toInt64 &&& 63) = cutM so v := by
  refine tb_ext (fun i hi => ?_)
  match so, hso with
  | 0, _ =>
    unfold cutM
    rw [if_pos rfl, tb_c8 v i hi, show (64 : Int32) - ((8 : Int32) <<< (nI 0 &&& 31)) = nI 56 by decide +kernel, tb_shs v (by decide) i hi]
    by_cases h : i < 8
    · rw [if_pos h, if_pos (by omega)]
    · rw [if_neg h, if_neg (by omega)]
  | 1, _ =>
    unfold cutM
    rw [if_neg (by decide), if_pos rfl, tb_c16 v i hi, show (64 : Int32) - ((8 : Int32) <<< (nI 1 &&& 31)) = nI 48 by decide +kernel, tb_shs v (by decide) i hi]
    by_cases h : i < 16
    · rw [if_pos h, if_pos (by omega)]
    · rw [if_neg h, if_neg (by omega)]
  | 2, _ =>
    unfold cutM
    rw [if_neg (by decide), if_neg (by decide), if_pos rfl, tb_c32 v i hi, show (64 : Int32) - ((8 : Int32) <<< (nI 2 &&& 31)) = nI 32 by decide +kernel, tb_shs v (by decide) i hi]
    by_cases h : i < 32
    · rw [if_pos h, if_pos (by omega)]
    · rw [if_neg h, if_neg (by omega)]
  | 3, _ =>
    unfold cutM
    rw [if_neg (by decide), if_neg (by decide), if_neg (by decide), show (64 : Int32) - ((8 : Int32) <<< (nI 3 &&& 31)) = nI 0 by decide +kernel, tb_shs v (by decide) i hi, if_pos (by omega)]
theorem i40m (k i : Nat) : (40 : Int32) * nI k + nI i = nI (40 * k + i) := by rw [show (40 : Int32) = nI 40 from rfl, pk_mul, nI_add]
theorem isTray_12 (i : Int32) : f_X12_isTray i = some (if i < 0 ∨ nI 4 ≤ i then 0 else 1) := by
  unfold f_X12_isTray
  have := within_12 i (n := 4) (by decide)
  rw [show (((nI 4) - 1 : Int32).toInt64) = 3 by decide +kernel] at this
  rw [this, ob_s, if_pos (isb01 _)]
section RRT
variable {st x : OS} {s s' : Wst} {tp : Nat → Int32} {hd : Nat} {wr wa : Int32} {ic : Nat → Option Wd} {tc : Nat → Option (Nat × List Int64)}
theorem sort_ne {so : Nat} (h : so ≤ 3) : ¬ nI so = (-1 : Int32) := nI_m1 (by omega)
/-- a tray that isn't there -/
theorem TR.no (h : TR st tc) {j : Nat} (hj : j < 4) (hn : tc j = none) : st.2.2.1 46 j = -1 := (h j hj).1 hn
/-- other trays stay, one changes -/
theorem RR.tray (h : RR st s tp hd wr wa ic tc) {j : Nat} (hj : j < 4) {so : Nat} {row : List Int64} (hso : so ≤ 3) (hr : row.length ≤ 40) (f46 f47 : Nat → Int32) (f48 : Nat → Int64) (h1 : f46 j = nI so) (h2 : f47 j = nI row.length) (h3 : ∀ i, i < row.length → f48 (40 * j + i) = wl row i) (o1 : ∀ k, k ≠ j → f46 k = st.2.2.1 46 k) (o2 : ∀ k, k ≠ j → f47 k = st.2.2.1 47 k) (o3 : ∀ k i, k ≠ j → i < 40 → f48 (40 * k + i) = st.2.2.2 48 (40 * k + i)) :
    RR (oB (oA (oA st 46 f46) 47 f47) 48 f48) s tp hd wr wa ic (va_up tc j (some (so, row))) := by
  obtain ⟨g1, ⟨a2, a3, a4, a5, a6⟩, g3, g4, g5, g6⟩ := h
  have e46 : (oB (oA (oA st 46 f46) 47 f47) 48 f48).2.2.1 46 = f46 := by rw [oB_A, oA_ne _ (by decide), oA_self]
  have e47 : (oB (oA (oA st 46 f46) 47 f47) 48 f48).2.2.1 47 = f47 := by rw [oB_A, oA_self]
  have e48 : (oB (oA (oA st 46 f46) 47 f47) 48 f48).2.2.2 48 = f48 := oB_self _ _ _
  have eA : ∀ k, k ≠ 46 → k ≠ 47 → (oB (oA (oA st 46 f46) 47 f47) 48 f48).2.2.1 k = st.2.2.1 k := fun k h1 h2 => by rw [oB_A, oA_ne _ h2, oA_ne _ h1]
  have eB : ∀ k, k ≠ 48 → (oB (oA (oA st 46 f46) 47 f47) 48 f48).2.2.2 k = st.2.2.2 k := fun k h1 => by rw [oB_ne _ h1]; rfl
  refine ⟨g1.cong rfl rfl (eB 3 (by decide)), ⟨a2, a3, a4, ?_, ?_⟩, ⟨g3.1, g3.2.1, fun i hi => by rw [eA 4 (by decide) (by decide)]; exact g3.2.2 i hi⟩, g4, fun k hk => ?_, g6.cong (eA _ (by decide) (by decide)) (eA _ (by decide) (by decide)) (eA _ (by decide) (by decide)) (eB _ (by decide))⟩
  · rw [eA 40 (by decide) (by decide), eA 41 (by decide) (by decide), eB 38 (by decide)]; exact a5
  · rw [eA 42 (by decide) (by decide), eA 43 (by decide) (by decide), eB 39 (by decide)]; exact a6
  · rw [e46, e47, e48]
    by_cases hkj : k = j
    · subst hkj
      simp only [va_up, if_true]
      refine ⟨fun z => (by cases z), fun so2 row2 z => ?_⟩
      cases z
      exact ⟨h1, hso, h2, hr, h3⟩
    · simp only [va_up, if_neg hkj]
      rw [o1 k hkj, o2 k hkj]
      refine ⟨(g5 k hk).1, fun so2 row2 z => ?_⟩
      obtain ⟨q1, q2, q3, q4, q5⟩ := (g5 k hk).2 so2 row2 z
      exact ⟨q1, q2, q3, q4, fun i hi => by rw [o3 k i hkj (by omega)]; exact q5 i hi⟩
theorem tr_fill (st : OS) (j : Nat) (hj : j < 4) : lpv (f_X12_tray_69 (nI j)) (st, 0) = some (oB st 48 (fun z => if 40 * j ≤ z ∧ z < 40 * j + 40 then 0 else st.2.2.2 48 z)) := by
  have key := lpv_for (f := f_X12_tray_69 (nI j)) (I := fun i => (oB st 48 (fun z => if 40 * j ≤ z ∧ z < 40 * j + i then 0 else st.2.2.2 48 z), nI i)) (N := 40) (r := oB st 48 (fun z => if 40 * j ≤ z ∧ z < 40 * j + 40 then 0 else st.2.2.2 48 z)) (fun i hi => ?_) ?_ 0 (Nat.zero_le _)
  · have e : (fun z => if 40 * j ≤ z ∧ z < 40 * j + 0 then 0 else st.2.2.2 48 z) = st.2.2.2 48 := by
      funext z
      rw [if_neg (by omega)]
    rw [e, oB_id] at key
    exact key
  · unfold f_X12_tray_69
    dsimp only [bnd]
    rw [if_neg (show ¬ (40 : Int32) ≤ nI i from nI_ge (a := i) (b := 40) hi (by decide)), i40m, if_pos (inb_t (by omega) (by omega)), nI_clamp (by omega), oB_self, oB_same, nI_1]
    congr 4
    funext z
    unfold vp_updL
    by_cases h1 : z = 40 * j + i
    · rw [if_pos h1, if_pos (by omega)]
    · rw [if_neg h1]
      dsimp only
      by_cases h2 : 40 * j ≤ z ∧ z < 40 * j + i
      · rw [if_pos h2, if_pos (by omega)]
      · rw [if_neg h2, if_neg (by omega)]
  · unfold f_X12_tray_69
    dsimp only
    rw [if_pos (show (40 : Int32) ≤ nI 40 from nI_le (a := 40) (by omega) (by decide))]
theorem r_tray (h : RR st s tp hd wr wa ic tc) (i so n : Int32) : ∃ x, f_X12_tray st i so n = some x ∧ ((i < 0 ∨ ¬ i < 4) → x.1 2 = 1 ∧ RR x s tp hd wr wa ic tc) ∧ (¬ i < 0 → i < 4 → (so < 0 ∨ 3 < so ∨ n < 0 ∨ ¬ n ≤ 40) → x.1 2 = 2 ∧ RR x s tp hd wr wa ic tc) ∧
    (∀ j so' n', i = nI j → j < 4 → so = nI so' → so' ≤ 3 → n = nI n' → n' ≤ 40 → x.1 2 = 0 ∧ RR x s tp hd wr wa ic (va_up tc j (some (so', List.replicate n' 0)))) := by
  have hw3 := within_12 so (n := 4) (by decide)
  have hw40 := within_12 n (n := 41) (by decide)
  rw [show (((nI 4) - 1 : Int32).toInt64) = 3 by decide +kernel] at hw3
  rw [show (((nI 41) - 1 : Int32).toInt64) = 40 by decide +kernel] at hw40
  unfold f_X12_tray
  rw [isTray_12, ob_s]
  rcases out_or (i := i) (n := 4) with h1 | ⟨j, rfl, hj⟩
  · rw [if_pos h1, if_pos rfl]
    dsimp only [bnd]
    rw [ne_le, if_neg (show ¬ (1 : Int32) ≤ 0 by decide)]
    refine ⟨_, rfl, fun _ => ⟨ne_le 1, h.thr 1⟩, fun z1 z2 => absurd h1 (fun z => z.elim z1 (fun z => Int32.not_lt.mpr z z2)), fun j _ _ e hj => ?_⟩
    subst e
    exact absurd h1 (in_not (by decide) hj)
  · have h1 := in_not (n := 4) (by decide) hj
    have hnn : ¬ (nI j < 0 ∨ ¬ nI j < 4) := fun z => z.elim (nI_pos (by omega)) (fun z => z (nI_lt (b := 4) hj (by decide)))
    rw [if_neg h1, if_neg (show ¬ (1 : Int32) = 0 by decide), hw3, ob_s]
    rcases out_or (i := so) (n := 4) with h2 | ⟨so', rfl, hso⟩
    · rw [if_pos h2, if_pos rfl]
      dsimp only [bnd]
      rw [ne_le, if_neg (show ¬ (2 : Int32) ≤ 0 by decide)]
      refine ⟨_, rfl, fun z => absurd z hnn, fun _ _ _ => ⟨ne_le 2, h.thr 2⟩, fun _ so' _ _ _ e hso => ?_⟩
      subst e
      exact absurd h2 (in_not (by decide) (by omega))
    · have h2 := in_not (n := 4) (by decide) hso
      rw [if_neg h2, if_neg (show ¬ (1 : Int32) = 0 by decide), hw40, ob_s]
      rcases out_or (i := n) (n := 41) with h3 | ⟨n', rfl, hn⟩
      · rw [if_pos h3, if_pos rfl]
        dsimp only [bnd]
        rw [ne_le, if_neg (show ¬ (2 : Int32) ≤ 0 by decide)]
        refine ⟨_, rfl, fun z => absurd z hnn, fun _ _ _ => ⟨ne_le 2, h.thr 2⟩, fun _ _ n' _ _ _ _ e hn => ?_⟩
        subst e
        exact absurd h3 (in_not (by decide) (by omega))
      · have h3 := in_not (n := 41) (by decide) hn
        rw [if_neg h3, if_neg (show ¬ (1 : Int32) = 0 by decide)]
        dsimp only [bnd]
        rw [ne_le, if_pos (show (0 : Int32) ≤ 0 by decide), if_pos (inb_t (by omega) (by omega)), tr_fill _ j hj, ob_s, nI_clamp (by omega)]
        refine ⟨_, rfl, fun z => absurd z hnn, fun _ _ z => ?_, fun j2 so2 n2 e1 _ e2 hs2 e3 hn2 => ⟨ne_le (st := st) 0, ?_⟩⟩
        · exfalso
          rcases z with z | z | z | z
          · exact nI_pos (by omega) z
          · exact nI_nlt (a := 3) (b := so') (by omega) (by decide) z
          · exact nI_pos (by omega) z
          · exact z (nI_le (b := 40) (by omega) (by decide))
        · have e1 := (nI_eq (by omega) (by omega)).mp e1
          have e2 := (nI_eq (by omega) (by omega)).mp e2
          have e3 := (nI_eq (by omega) (by omega)).mp e3
          subst e1 e2 e3
          refine (h.thr 0).tray hj hs2 (by rw [List.length_replicate]; exact hn2) _ _ _ ?_ ?_ ?_ ?_ ?_ ?_
          · unfold upd; rw [if_pos rfl]
          · rw [oA_ne _ (by decide)]
            unfold upd; rw [if_pos rfl, List.length_replicate]
          · intro i hi
            rw [List.length_replicate] at hi
            rw [wl_rep, if_pos (by omega)]
          · intro k hk; unfold upd; rw [if_neg hk]
          · intro k hk; rw [oA_ne _ (by decide)]; unfold upd; rw [if_neg hk]
          · intro k i hk hi
            rw [if_neg (by omega)]
            rfl
end RRT
