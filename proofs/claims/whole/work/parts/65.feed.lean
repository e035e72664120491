/-! feed -/
def byt (a : Int32) (s : Nat) : Int32 := ((a.toUInt32 >>> ((nI s).toUInt32 &&& Int32.toUInt32 31)).toInt32) &&& 255
theorem byt_c (a : Int32) {s : Nat} (hs : s ≤ 24) : vp_nar .byte ((a >>> (nI s &&& 31) : Int32).toInt8.toInt32) &&& 255 = byt a s := by
  apply b_ext
  intro i hi
  unfold byt
  rw [b_and, b_and, b_255, b_ushr s (by omega)]
  by_cases q : i < 8
  · have h : bt (vp_nar .byte ((a >>> (nI s &&& 31) : Int32).toInt8.toInt32)) i = bt (a >>> (nI s &&& 31)) i := by
      show bt (((a >>> (nI s &&& 31) : Int32).toInt8.toInt32).toInt8.toInt32) i = _
      rw [fb_byte_twice]
      unfold bt
      rw [Int8.toBitVec_toInt32, Int32.toBitVec_toInt8, BitVec.getLsbD_signExtend, BitVec.getLsbD_signExtend]
      simp [q, hi]
    rw [h, b_sshr s (by omega) a hi, if_pos (by omega)]
  · rw [decide_eq_false q, Bool.and_false, Bool.and_false]
def argK (a0 a1 a2 a3 a4 : Int32) (k : Nat) : Int32 := if 4 ≤ k then (if 8 ≤ k then (if 12 ≤ k then (if 16 ≤ k then a4 else a3) else a2) else a1) else a0
def tpF (tp : Nat → Int32) (hd : Nat) (a0 a1 a2 a3 a4 : Int32) : Nat → Nat → Int32
  | 0 => tp
  | k + 1 => upd (tpF tp hd a0 a1 a2 a3 a4 k) (hd + k) (byt (argK a0 a1 a2 a3 a4 k) (24 - 8 * (k % 4)))
theorem put_1 {y stm : OS} {tp : Nat → Int32} {hd : Nat} {wr wa : Int32} (h : RDR y tp hd wr wa) (hh : hd < 700) (a : Int32) {s : Nat} (hs : s ≤ 24) : ∃ v, f_X5_put_3 stm a (y, nI s) = some (.inl (v, nI s + (-8))) ∧ RDR v (upd tp hd (byt a s)) (hd + 1) wr wa := by
  obtain ⟨h1, h2, h3, h4, h5⟩ := h
  refine ⟨oI (oA y 1 (upd (y.2.2.1 1) hd (vp_nar .byte ((a >>> (nI s &&& 31) : Int32).toInt8.toInt32)))) 2 (nI (hd + 1)), ?_, ?_, by omega, ?_, ?_, fun i hi => ?_⟩
  · unfold f_X5_put_3
    dsimp only
    rw [if_neg (nI_pos (by omega)), h1, if_neg (nI_pos (by omega)), if_neg (show ¬ (700 : Int32) ≤ nI hd from nI_ge (b := 700) hh (by decide)), if_pos (inb_t hh (by omega)), nI_clamp (by omega)]
    dsimp only [bnd]
    rw [show (oA y 1 (upd (y.2.2.1 1) hd (vp_nar .byte ((a >>> (nI s &&& 31) : Int32).toInt8.toInt32)))).1 = y.1 from rfl, h1, nI_1]
  · exact oI_self _ _ _
  · rw [oI_ne _ (by decide)]; exact h3
  · rw [oI_ne _ (by decide)]; exact h4
  · rw [oI_2, oA_self]
    by_cases q : i = hd
    · rw [q, upd_s, upd_s, byt_c a hs]
    · rw [upd_n q, upd_n q]
      exact h5 i (by omega)
theorem put_5 {y stm : OS} {tp : Nat → Int32} {hd : Nat} {wr wa : Int32} (h : RDR y tp hd wr wa) (hh : hd + 4 ≤ 700) (a : Int32) : ∃ v, f_X5_put y stm a = some v ∧ RDR v (upd (upd (upd (upd tp hd (byt a 24)) (hd + 1) (byt a 16)) (hd + 2) (byt a 8)) (hd + 3) (byt a 0)) (hd + 4) wr wa := by
  obtain ⟨v1, e1, h1⟩ := put_1 (stm := stm) h (by omega) a (s := 24) (by omega)
  obtain ⟨v2, e2, h2⟩ := put_1 (stm := stm) h1 (by omega) a (s := 16) (by omega)
  obtain ⟨v3, e3, h3⟩ := put_1 (stm := stm) h2 (by omega) a (s := 8) (by omega)
  obtain ⟨v4, e4, h4⟩ := put_1 (stm := stm) h3 (by omega) a (s := 0) (by omega)
  refine ⟨v4, ?_, h4⟩
  have e5 : f_X5_put_3 stm a (v4, nI 0 + (-8)) = some (.inr v4) := by
    unfold f_X5_put_3
    dsimp only
    rw [if_pos (by decide)]
  unfold f_X5_put
  rw [show ((y, (24 : Int32)) : OS × Int32) = (y, nI 24) from rfl, lpv_in e1, show nI 24 + (-8) = nI 16 by decide, lpv_in e2, show nI 16 + (-8) = nI 8 by decide, lpv_in e3, show nI 8 + (-8) = nI 0 by decide, lpv_in e4, lpv_out e5, ob_s]
theorem feed_5 {tp : Nat → Int32} {hd : Nat} {wr wa : Int32} (a0 a1 a2 a3 a4 : Int32) (hh : hd + 20 ≤ 700) (stt str stm : OS) (h : RDR str tp hd wr wa) : ∃ y, f_X11_feed stt str stm a0 a1 a2 a3 a4 = some (nI (hd + 20), y) ∧ RDR y (tpF tp hd a0 a1 a2 a3 a4 20) (hd + 20) wr wa := by
  obtain ⟨v1, e1, h1⟩ := put_5 (stm := stm) h (by omega) a0
  obtain ⟨v2, e2, h2⟩ := put_5 (stm := stm) h1 (by omega) a1
  obtain ⟨v3, e3, h3⟩ := put_5 (stm := stm) h2 (by omega) a2
  obtain ⟨v4, e4, h4⟩ := put_5 (stm := stm) h3 (by omega) a3
  obtain ⟨v5, e5, h5⟩ := put_5 (stm := stm) h4 (by omega) a4
  refine ⟨v5, ?_, h5⟩
  unfold f_X11_feed f_X5_hasRoomFor
  rw [h.1, show nI hd + 20 = nI (hd + 20) from nI_add _ _, if_neg (show ¬ (700 : Int32) < nI (hd + 20) from nI_nlt (b := hd + 20) (a := 700) hh (by decide)), ob_s, if_neg (by decide), e1, ob_s, e2, ob_s, e3, ob_s, e4, ob_s, e5, ob_s, h5.1]
theorem feed_no {tp : Nat → Int32} {hd : Nat} {wr wa : Int32} (a0 a1 a2 a3 a4 : Int32) (hh : 700 < hd + 20) (stt str stm : OS) (h : RDR str tp hd wr wa) : ∃ y, f_X11_feed stt str stm a0 a1 a2 a3 a4 = some (-1, y) ∧ RDR y tp hd wr wa := by
  refine ⟨str, ?_, h⟩
  have := h.2.1
  unfold f_X11_feed f_X5_hasRoomFor
  rw [h.1, show nI hd + 20 = nI (hd + 20) from nI_add _ _, if_pos (show (700 : Int32) < nI (hd + 20) from nI_lt (a := 700) hh (by omega)), ob_s, if_pos rfl]
abbrev Kf : OS → OS → Prop := Keep (inL [0, 1, 2, 13, 14, 44, 45]) (inL [40, 41, 42, 43, 46, 47, 49, 50, 51]) (inL [3, 38, 39, 48, 52])
theorem RR.kf {st x : OS} {s : Wst} {tp tp' : Nat → Int32} {hd hd' : Nat} {wr wa : Int32} {ic : Nat → Option Wd} {tc : Nat → Option (Nat × List Int64)} (h : RR st s tp hd wr wa ic tc) (k : Kf st x) (h5 : x.1 5 = nI hd') (hh : hd' ≤ 700) (h4 : ∀ i, i < hd' → x.2.2.1 4 i = tp' i) : RR x s tp' hd' wr wa ic tc := by
  obtain ⟨h1, ⟨h2, h3, h4', h5', h6⟩, -, ⟨h10, h11⟩, h12, h13⟩ := h
  obtain ⟨kI, kA, kB⟩ := k
  refine ⟨h1.cong (kI 0 rfl) (kI 1 rfl) (kB 3 rfl), ⟨(kI 44 rfl).trans h2, (kI 45 rfl).trans h3, h4', ?_, ?_⟩, ⟨h5, hh, h4⟩, ⟨(kI 13 rfl).trans h10, (kI 14 rfl).trans h11⟩, h12.cong (kA 46 rfl) (kA 47 rfl) (kB 48 rfl), h13.cong (kA 49 rfl) (kA 50 rfl) (kA 51 rfl) (kB 52 rfl)⟩
  · rw [kA 40 rfl, kA 41 rfl, kB 38 rfl]; exact h5'
  · rw [kA 42 rfl, kA 43 rfl, kB 39 rfl]; exact h6
theorem sh_k : ∀ i, i < 20 → ((24 : Int32) - ((8 : Int32) * (nI i &&& 3))) = nI (24 - 8 * (i % 4)) := by decide +kernel
theorem feed_12 {st : OS} {s : Wst} {tp : Nat → Int32} {hd : Nat} {wr wa : Int32} {ic : Nat → Option Wd} {tc : Nat → Option (Nat × List Int64)} (h : RR st s tp hd wr wa ic tc) (a0 a1 a2 a3 a4 : Int32) (hh : hd + 20 ≤ 700) : ∃ x, f_X12_feed st a0 a1 a2 a3 a4 = some (nI (hd + 20), x) ∧ RR x s (tpF tp hd a0 a1 a2 a3 a4 20) (hd + 20) wr wa ic tc := by
  have h0 := h.thr 0
  have key := lpv_inv (f := f_X12_feed_23 a0 a1 a2 a3 a4) (fun i z => z.2 = nI i ∧ Kf (oI st 2 0) z.1 ∧ z.1.1 5 = nI (hd + i) ∧ ∀ j, j < hd + i → z.1.2.2.1 4 j = tpF tp hd a0 a1 a2 a3 a4 i j) 20 (fun x => Kf (oI st 2 0) x ∧ x.1 5 = nI (hd + 20) ∧ ∀ j, j < hd + 20 → x.2.2.1 4 j = tpF tp hd a0 a1 a2 a3 a4 20 j) (fun i z hi hI => Or.inl ?_) (fun z hI => ?_) 0 (oI st 2 0, 0) (Nat.zero_le _) ⟨rfl, Keep.rf, h0.2.2.1.1, h0.2.2.1.2.2⟩
  · obtain ⟨x, e, k1, k2, k3⟩ := key
    refine ⟨x, ?_, h0.kf k1 k2 hh k3⟩
    unfold f_X12_feed
    dsimp only [bnd]
    rw [h0.2.2.1.1, show nI hd + 20 = nI (hd + 20) from nI_add _ _, if_pos (show nI (hd + 20) ≤ (700 : Int32) from nI_le (b := 700) hh (by decide)), e, ob_s, k2]
  · obtain ⟨x, b⟩ := z
    obtain ⟨e1, e2, e3, e4⟩ := hI
    dsimp only at e1 e2 e3 e4
    subst e1
    refine ⟨(oI (oA x 4 (upd (x.2.2.1 4) (hd + i) (byt (argK a0 a1 a2 a3 a4 i) (24 - 8 * (i % 4))))) 5 (nI (hd + i + 1)), nI (i + 1)), ?_, rfl, Keep.oI (Keep.oA e2 rfl) rfl, oI_self _ _ _, fun j hj => ?_⟩
    · unfold f_X12_feed_23
      dsimp only
      rw [if_neg (show ¬ (20 : Int32) ≤ nI i from nI_ge (b := 20) hi (by decide)), sh_k i hi, e3, if_pos (inb_t (by omega) (by omega)), nI_clamp (by omega)]
      simp only [bnd, show ∀ f : Nat → Int32, (oA x 4 f).1 = x.1 from fun f => rfl, e3, nI_1]
      unfold argK byt
      have c : ∀ n, n ≤ 20 → (nI n ≤ nI i ↔ n ≤ i) := fun n hn => ⟨fun z => by
        rcases Nat.lt_or_ge i n with q | q
        · exact absurd z (nI_ge q (by omega))
        · exact q, fun z => nI_le z (by omega)⟩
      have c4 := c 4 (by omega)
      have c8 := c 8 (by omega)
      have c12 := c 12 (by omega)
      have c16 := c 16 (by omega)
      show (if nI 4 ≤ nI i then (if nI 8 ≤ nI i then (if nI 12 ≤ nI i then (if nI 16 ≤ nI i then _ else _) else _) else _) else _) = _
      by_cases q4 : 4 ≤ i
      · rw [if_pos (c4.mpr q4), if_pos q4]
        by_cases q8 : 8 ≤ i
        · rw [if_pos (c8.mpr q8), if_pos q8]
          by_cases q12 : 12 ≤ i
          · rw [if_pos (c12.mpr q12), if_pos q12]
            by_cases q16 : 16 ≤ i
            · rw [if_pos (c16.mpr q16), if_pos q16]
            · rw [if_neg (fun z => q16 (c16.mp z)), if_neg q16, if_pos (inb_t (by omega) (by omega))]
          · rw [if_neg (fun z => q12 (c12.mp z)), if_neg q12, if_pos (inb_t (by omega) (by omega))]
        · rw [if_neg (fun z => q8 (c8.mp z)), if_neg q8, if_pos (inb_t (by omega) (by omega))]
      · rw [if_neg (fun z => q4 (c4.mp z)), if_neg q4, if_pos (inb_t (by omega) (by omega))]
    · dsimp only
      rw [oI_2, oA_self]
      simp only [tpF]
      by_cases q : j = hd + i
      · rw [q, upd_s, upd_s]
      · rw [upd_n q, upd_n q]
        exact e4 j (by omega)
  · obtain ⟨x, b⟩ := z
    obtain ⟨e1, e2, e3, e4⟩ := hI
    dsimp only at e1 e2 e3 e4
    subst e1
    refine ⟨x, ?_, e2, e3, e4⟩
    unfold f_X12_feed_23
    dsimp only
    rw [if_pos (show (20 : Int32) ≤ nI 20 by decide)]
theorem feed_12n {st : OS} {s : Wst} {tp : Nat → Int32} {hd : Nat} {wr wa : Int32} {ic : Nat → Option Wd} {tc : Nat → Option (Nat × List Int64)} (h : RR st s tp hd wr wa ic tc) (a0 a1 a2 a3 a4 : Int32) (hh : 700 < hd + 20) : ∃ x, f_X12_feed st a0 a1 a2 a3 a4 = some (-1, x) ∧ RR x s tp hd wr wa ic tc := by
  have h0 := h.thr 0
  have := h.2.2.1.2.1
  refine ⟨oI st 2 0, ?_, h0⟩
  unfold f_X12_feed
  dsimp only [bnd]
  rw [h0.2.2.1.1, show nI hd + 20 = nI (hd + 20) from nI_add _ _, if_neg (show ¬ nI (hd + 20) ≤ (700 : Int32) from nI_ge (a := 700) hh (by omega))]
theorem ag_feed {l : Launch} {G : mG} {a b ao : Nat} : Ag_feed l G (LJ G a b ao) a b ao := by
  intro m p0 p1 p2 p3 p4 hJ
  obtain ⟨s, tp, hd, wr, wa, ic, tc, q, st, fo, ⟨ow, F, qt, rfl, rfl, N, hA, hC, hb, ho⟩, hR, hW⟩ := hJ
  rcases Nat.lt_or_ge 700 (hd + 20) with c | c
  · obtain ⟨x, hF, hX⟩ := feed_12n hR p0 p1 p2 p3 p4 c
    refine ⟨_, n_X11_feed N (feed_no p0 p1 p2 p3 p4 c), fun r m9 hp => ?_⟩
    obtain ⟨rfl, e2⟩ := hp
    obtain ⟨f1, f2, f3, f4, f5⟩ := (LR.ntp hA hC hb ho e2).fin hX hW
    exact ⟨q, st, x, f1, f2, f3, hF, f5⟩
  · obtain ⟨x, hF, hX⟩ := feed_12 hR p0 p1 p2 p3 p4 c
    refine ⟨_, n_X11_feed N (feed_5 p0 p1 p2 p3 p4 c), fun r m9 hp => ?_⟩
    obtain ⟨rfl, e2⟩ := hp
    obtain ⟨f1, f2, f3, f4, f5⟩ := (LR.ntp hA hC hb ho e2).fin hX hW
    exact ⟨q, st, x, f1, f2, f3, hF, f5⟩
