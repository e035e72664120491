/-! the other calls on the whole state -/
theorem min_J9 (a b : Int32) : f_J9_min_7cf53 a b = some (if b < a then b else a) := by
  unfold f_J9_min_7cf53
  split <;> rfl
/-! trays -/
def cutM (so : Nat) (v : Int64) : Int64 := if so = 0 then (((v : Int64).toInt32 : Int32).toInt8.toInt32 : Int32).toInt64 else if so = 1 then (((v : Int64).toInt32 : Int32).toInt16.toInt32 : Int32).toInt64 else if so = 2 then ((v : Int64).toInt32 : Int32).toInt64 else v
def pourM (so : Nat) (row l : List Int64) : List Int64 := (List.range row.length).map (fun i => if i < l.length then cutM so (wl l i) else wl row i)
theorem wl_rep (n i : Nat) : wl (List.replicate n 0) i = 0 := by
  unfold wl
  rw [List.getD_eq_getElem?_getD, List.getElem?_replicate]
  split <;> rfl
theorem wl_set {l : List Int64} {i : Nat} (hi : i < l.length) (v : Int64) (j : Nat) : wl (l.set i v) j = if j = i then v else wl l j := by
  unfold wl
  rw [List.getD_eq_getElem?_getD, List.getElem?_set]
  by_cases h : i = j
  · subst h
    rw [if_pos rfl, if_pos hi, if_pos rfl]
    rfl
  · rw [if_neg h, if_neg (fun z => h z.symm), List.getD_eq_getElem?_getD]
theorem pourM_len (so : Nat) (row l : List Int64) : (pourM so row l).length = row.length := by
  unfold pourM
  rw [List.length_map, List.length_range]
theorem wl_pour (so : Nat) (row l : List Int64) {i : Nat} (hi : i < row.length) : wl (pourM so row l) i = if i < l.length then cutM so (wl l i) else wl row i := by
  show (pourM so row l).getD i 0 = _
  unfold pourM
  rw [List.getD_eq_getElem?_getD, List.getElem?_map, List.getElem?_range hi]
  rfl
theorem cut_7 {st : OS} {so : Nat} (h : st.1 0 = nI so) (hso : so ≤ 3) (v : Int64) : f_X7_cut st v = some (cutM so v) := by
  unfold f_X7_cut cutM
  rw [h, show (0 : Int32) = nI 0 from rfl, show (1 : Int32) = nI 1 from rfl, show (2 : Int32) = nI 2 from rfl]
  simp only [nI_eq (show so < 2 ^ 31 by omega) (show 0 < 2 ^ 31 by decide), nI_eq (show so < 2 ^ 31 by omega) (show 1 < 2 ^ 31 by decide), nI_eq (show so < 2 ^ 31 by omega) (show 2 < 2 ^ 31 by decide)]
  repeat' split <;> first | rfl | skip
theorem put_7 {st : OS} {so : Nat} {row : List Int64} (h : TrC st so row) {i : Nat} (hi : i < row.length) (v : Int64) : ∃ x, f_X7_put st (nI i) v = some x ∧ TrC x so (row.set i (cutM so v)) := by
  obtain ⟨h0, h1, h2, h3, h4⟩ := h
  refine ⟨oB st 2 (vp_updL (st.2.2.2 2) i (cutM so v)), ?_, h0, h1, by rw [List.length_set]; exact h2, by rw [List.length_set]; exact h3, fun j hj => ?_⟩
  · unfold f_X7_put
    rw [if_neg (nI_pos (by omega)), h2, if_neg (nI_ge hi (by omega)), if_neg (show ¬ (40 : Int32) ≤ nI i from nI_ge (a := i) (b := 40) (by omega) (by decide)), cut_7 h0 h1, ob_s, if_pos (inb_t (by omega) (by omega)), nI_clamp (by omega)]
    rfl
  · rw [List.length_set] at hj
    rw [wl_set hi, oB_self]
    show (if j = i then _ else _) = _
    by_cases hji : j = i
    · rw [if_pos hji, if_pos hji]
    · rw [if_neg hji, if_neg hji, h4 j hj]
theorem empty_7 (st : OS) {so n : Nat} (hso : so ≤ 3) (hn : n ≤ 40) : ∃ x, f_X7_becomeEmpty st (nI so) (nI n) = some x ∧ TrC x so (List.replicate n 0) := by
  refine ⟨oB (oI (oI st 0 (nI so)) 1 (nI n)) 2 (fillF 40 0 (st.2.2.2 2)), ?_, ?_, hso, ?_, by rw [List.length_replicate]; exact hn, fun i hi => ?_⟩
  · unfold f_X7_becomeEmpty
    rw [min_J9, if_neg (show ¬ (40 : Int32) < nI n from nI_nlt (b := n) (a := 40) hn (by decide))]
    rfl
  · show (oI (oI st 0 (nI so)) 1 (nI n)).1 0 = _
    rw [oI_ne _ (by decide), oI_self]
  · show (oI (oI st 0 (nI so)) 1 (nI n)).1 1 = _
    rw [oI_self, List.length_replicate]
  · rw [List.length_replicate] at hi
    rw [oB_self, wl_rep]
    show (if i < 40 then _ else _) = _
    rw [if_pos (by omega)]
theorem write_7 {st sty : OS} {so : Nat} {row : List Int64} (h : TrC sty so row) (i p : Int32) (v : Int64) : (∃ q x, p = nI q ∧ q < row.length ∧ f_X11_write st sty i p v = some (.inr (cutM so v, x)) ∧ TrC x so (row.set q (cutM so v))) ∨ ((p < 0 ∨ nI row.length ≤ p) ∧ f_X11_write st sty i p v = some (.inl 3)) := by
  have hr := h.2.2.2.1
  by_cases h1 : p < 0
  · refine Or.inr ⟨Or.inl h1, ?_⟩
    unfold f_X11_write
    rw [if_pos h1]
  · obtain ⟨q, hq, rfl⟩ := nI_of h1
    rcases Nat.lt_or_ge q row.length with h2 | h2
    · obtain ⟨x, e, hx⟩ := put_7 h h2 v
      refine Or.inl ⟨q, x, rfl, h2, ?_, hx⟩
      unfold f_X11_write
      rw [if_neg h1, h.2.2.1, if_pos (nI_lt h2 (by omega)), e, ob_s, cellAt_7 hx hq, ob_s, wl_set h2, if_pos rfl]
    · refine Or.inr ⟨Or.inr (nI_le h2 hq), ?_⟩
      unfold f_X11_write
      rw [if_neg h1, h.2.2.1, if_neg (nI_nlt h2 hq)]
theorem pour_7 {st stn sty : OS} {w : Wd} {so : Nat} {row : List Int64} (hw : CW stn w) (h : TrC sty so row) (i : Int32) : ∃ x, f_X11_pour st stn sty i = some (.inr (nI (min row.length w.2.length), x)) ∧ TrC x so (pourM so row w.2) := by
  have hr := h.2.2.2.1
  have hl := hw.1.2.2.2.1
  have h1 := hw.1.2.1
  have key : ∃ x, lpv (f_X11_pour_24 st stn (nI (min row.length w.2.length))) (sty, 0) = some x ∧ TrC x so (pourM so row w.2) := by
    refine lpv_inv (fun i s => s.2 = nI i ∧ ∃ r2, TrC s.1 so r2 ∧ r2.length = row.length ∧ ∀ j, j < row.length → wl r2 j = if j < i then cutM so (wl w.2 j) else wl row j) (min row.length w.2.length) _ (fun i s hi hI => Or.inl ?_) (fun s hI => ?_) 0 _ (Nat.zero_le _) ⟨rfl, row, h, rfl, fun j _ => rfl⟩
    · obtain ⟨y, b⟩ := s
      obtain ⟨rfl, r2, g1, g2, g3⟩ := hI
      obtain ⟨x, e, hx⟩ := put_7 g1 (i := i) (by omega) (wl w.2 i)
      refine ⟨(x, nI (i + 1)), ?_, rfl, _, hx, by rw [List.length_set]; exact g2, fun j hj => ?_⟩
      · unfold f_X11_pour_24
        dsimp only
        rw [if_neg (nI_ge hi (by omega)), setAt_10 hw.1 (by omega), ob_s, e, ob_s]
        show some (Sum.inl (x, nI i + 1)) = _
        rw [nI_1]
      · rw [wl_set (by omega)]
        by_cases hji : j = i
        · rw [if_pos hji, if_pos (by omega), hji]
        · rw [if_neg hji, g3 j hj]
          by_cases hj2 : j < i
          · rw [if_pos hj2, if_pos (by omega)]
          · rw [if_neg hj2, if_neg (by omega)]
    · obtain ⟨y, b⟩ := s
      obtain ⟨rfl, r2, ⟨t0, t1, t2, t3, t4⟩, g2, g3⟩ := hI
      refine ⟨y, ?_, t0, t1, by rw [pourM_len, ← g2]; exact t2, by rw [pourM_len]; exact hr, fun j hj => ?_⟩
      · unfold f_X11_pour_24
        dsimp only
        rw [if_pos (nI_le (Nat.le_refl _) (by omega))]
      · rw [pourM_len] at hj
        rw [t4 j (by omega), g3 j hj, wl_pour _ _ _ hj]
        by_cases hj2 : j < w.2.length
        · rw [if_pos hj2, if_pos (by omega)]
        · rw [if_neg hj2, if_neg (by omega)]
  obtain ⟨x, e, hx⟩ := key
  refine ⟨x, ?_, hx⟩
  unfold f_X11_pour
  rw [min_J9, h.2.2.1, h1]
  have : (if nI w.2.length < nI row.length then nI w.2.length else nI row.length) = nI (min row.length w.2.length) := by
    rcases Nat.lt_or_ge w.2.length row.length with z | z
    · rw [if_pos (nI_lt z (by omega)), Nat.min_eq_right (by omega)]
    · rw [if_neg (nI_nlt z (by omega)), Nat.min_eq_left z]
  rw [this, ob_s, e, ob_s]
section N1
variable {l : Launch} {G : mG} {ow : Nat → Nat} {m : mM} {qt : Nat → Nat} {s : Wst} {tp : Nat → Int32} {hd : Nat} {wr wa : Int32} {ic : Nat → Option Wd} {tc : Nat → Option (Nat × List Int64)} {F S : Nat → Prop}
theorem Core.alive {qn qd qh : Nat → Nat} {w : Wd} {bw aw : List Wd} (hC : Core G qt qn qd qh ow m w bw aw S) {r : Nat} (h : S r) : m r ≠ none := by
  obtain ⟨stt, stn, std, fb, fa, bs, as, hT, hn, hw, hd, ⟨⟨sth, hh, -, -⟩, hRb, hRa, -⟩, hb, ha, hx, hk, rfl⟩ := hC
  intro z
  rcases h with (rfl | rfl | rfl | ⟨i, h⟩ | ⟨i, h⟩) | rfl | rfl
  · have := hh.root; rw [show qh LX1.2.1 = qh 4 from rfl, z] at this; cases this
  · have := hRb.1.1; rw [z] at this; cases this
  · have := hRa.1.1; rw [z] at this; cases this
  · exact (hRb.2.1 _ _ h).ne0 z
  · exact (hRa.2.1 _ _ h).ne0 z
  · have := hn.root; rw [show qn LX10.2.1 = qn 5 from rfl, z] at this; cases this
  · have := hd.root; rw [show qd LX10.2.1 = qd 5 from rfl, z] at this; cases this
theorem n_X11_fault (N : NT G ow m qt s tp hd wr wa ic tc F) {a0 : Int32} : cQ l G yX11_fault cX11_fault 2 (some FieldType.int) rm_X11_fault [.ref (qt 10), .int a0] m (mQi G (fun r m' => r = (if a0 = 0 then wr else if a0 = 1 then wa else -1) ∧ NTP G ow m F m' qt s tp hd wr wa ic tc)) := by
  have N0 := N
  obtain ⟨qn, qd, qh, S, xi, xt, fi, ft, qr, qm, qc, qw, qk, qu, str, stm, stc, stw, stk, stu, hC, hA, hB, ⟨c1, c2, c3, c4, c5, c6⟩, hD, rfl⟩ := N
  obtain ⟨stt, stn, std, fb, fa, bs, as, hT, hn, hw, -, -, -, -, -, hk9, -⟩ := id hC
  have hy : f_X11_fault stt str a0 = some (if a0 = 0 then wr else if a0 = 1 then wa else -1) := by
    unfold f_X11_fault
    rw [c5.2.2.1, c5.2.2.2.1]
    repeat' split <;> first | rfl | skip
  refine (at2 hT c1 (c_X11_fault hT.1 c1.1 (oap2 (hT.dis c1 (hT.ne c1 (by decide)))) c3 hy)).mono (mQi.mono (fun r m' ⟨h2, h3⟩ => ?_))
  rw [c1.eq, hT.eq] at h3
  rw [h3, h2]
  exact ⟨rfl, NTP.rf N0⟩
theorem n_X11_count (N : NT G ow m qt s tp hd wr wa ic tc F) {a0 : Int32} : cQ l G yX11_count cX11_count 2 (some FieldType.int) rm_X11_count [.ref (qt 10), .int a0] m (mQi G (fun r m' => r = (if a0 = 0 then nI s.1.1 else if a0 = 1 then nI s.1.2.length else if a0 = 2 then nI hd else if a0 = 3 then nI s.2.1.length else if a0 = 4 then nI s.2.2.length else -1) ∧ NTP G ow m F m' qt s tp hd wr wa ic tc)) := by
  have N0 := N
  obtain ⟨qn, qd, qh, S, xi, xt, fi, ft, qr, qm, qc, qw, qk, qu, str, stm, stc, stw, stk, stu, hC, hA, hB, ⟨c1, c2, c3, c4, c5, c6⟩, hD, rfl⟩ := N
  obtain ⟨stt, stn, std, fb, fa, bs, as, hT, hn, hw, -, hS, hbw, haw, -, hk9, -⟩ := id hC
  obtain ⟨⟨sth, hh, e2, e3⟩, -⟩ := id hS
  have hy : f_X11_count stt str stn sth a0 = some (if a0 = 0 then nI s.1.1 else if a0 = 1 then nI s.1.2.length else if a0 = 2 then nI hd else if a0 = 3 then nI s.2.1.length else if a0 = 4 then nI s.2.2.length else -1) := by
    unfold f_X11_count
    rw [c5.1, hw.1.1, hw.1.2.1, e2, e3, hbw.1, haw.1]
    repeat' split <;> first | rfl | skip
  refine (at4 hT c1 hn hh (c_X11_count hT.1 c1.1 hn.1 hh.1 (oap4 (hT.dis c1 (hT.ne c1 (by decide))) (hT.dis hn (hT.ne hn (by decide))) (hT.dis hh (hT.ne hh (by decide))) (c1.dis hn (c1.ne hn (by decide))) (c1.dis hh (c1.ne hh (by decide))) (hn.dis hh (hn.ne hh (by decide)))) c3 hk9.1 hk9.2.2.1 hy)).mono (mQi.mono (fun r m' ⟨h2, h3⟩ => ?_))
  rw [hh.eq, hn.eq, c1.eq, hT.eq] at h3
  rw [h3, h2]
  exact ⟨rfl, NTP.rf N0⟩
theorem n_X11_feed (N : NT G ow m qt s tp hd wr wa ic tc F) {a0 a1 a2 a3 a4 : Int32} {k : Int32} {tp' : Nat → Int32} {hd' : Nat} {wr' wa' : Int32} (hk : ∀ (stt str stm : OS), RDR str tp hd wr wa → ∃ y, f_X11_feed stt str stm a0 a1 a2 a3 a4 = some (k, y) ∧ RDR y tp' hd' wr' wa') :
    cQ l G yX11_feed cX11_feed 6 (some FieldType.int) rm_X11_feed [.ref (qt 10), .int a0, .int a1, .int a2, .int a3, .int a4] m (mQi G (fun r m' => r = k ∧ NTP G ow m F m' qt s tp' hd' wr' wa' ic tc)) := by
  obtain ⟨qn, qd, qh, S, xi, xt, fi, ft, qr, qm, qc, qw, qk, qu, str, stm, stc, stw, stk, stu, hC, ⟨a1', a2', a3', a4'⟩, ⟨b1, b2, b3⟩, ⟨c1, c2, c3, c4, c5, c6⟩, ⟨d1, d2, d3, d4, d5⟩, rfl⟩ := N
  obtain ⟨stt, stn, std, fb, fa, bs, as, hT, hn, hw, -, hS, hbw, haw, -, hk9, -⟩ := id hC
  obtain ⟨y, hy, hR⟩ := hk stt str stm c5
  refine (at3 hT c1 c2 (c_X11_feed hT.1 c1.1 c2.1 (oap3 (hT.dis c1 (hT.ne c1 (by decide))) (hT.dis c2 (hT.ne c2 (by decide))) (c1.dis c2 (c1.ne c2 (by decide)))) c3 c4 hy)).mono (mQi.mono (fun r m' ⟨h2, h3⟩ => ?_))
  have hF : FrA G (fun r => r = qr 10) ow m ow (oset LX5 G qr y m) := c1.fA
  have hT1 := hF.1 _ _ _ (hT.ne c1 (by decide)) hT
  rw [c2.eq] at h3
  dsimp only at h3
  rw [hT1.eq] at h3
  rw [h3]
  refine ⟨h2, ow, _, ⟨qn, qd, qh, S, xi, xt, fi, ft, qr, qm, qc, qw, qk, qu, y, stm, stc, stw, stk, stu, hC.frA hF (fun r z y => hC.notS c1 (by decide) (by decide) (by rw [y] at z; exact z)) (hT.ne c1 (by decide)), ⟨a1', a2'.frA hF (fun z => c1.neC a2'.1 z.symm) ?_, a3'.frA hF ?_, a4'⟩, ⟨b1, b2.frA hF (fun z => c1.neC b2.1 z.symm) ?_, b3.frA hF ?_⟩, ⟨c1.self, hF.1 _ _ _ (c2.ne c1 (by decide)) c2, c3, c4, hR, c6⟩, ⟨hF.1 _ _ _ (d1.ne c1 (by decide)) d1, hF.1 _ _ _ (d2.ne c1 (by decide)) d2, hF.1 _ _ _ (d3.ne c1 (by decide)) d3, hF.1 _ _ _ (d4.ne c1 (by decide)) d4, d5⟩, rfl⟩, hF.mono (fun a z => by simp [z]), fun r z => Or.inl z⟩
  · exact fun j a hj z => by
      obtain ⟨q, st, e, hA⟩ := a2'.2.1 j a hj
      exact hA.ne c1 (by decide) (e.trans z)
  · exact fun j a hj z => by
      obtain ⟨q, st, e, hA⟩ := a2'.2.1 j a hj
      exact hA.ne c1 (by decide) (e.trans z)
  · exact fun j a hj z => by
      obtain ⟨q, st, e, hA⟩ := b2.2.1 j a hj
      exact hA.ne c1 (by decide) (e.trans z)
  · exact fun j a hj z => by
      obtain ⟨q, st, e, hA⟩ := b2.2.1 j a hj
      exact hA.ne c1 (by decide) (e.trans z)
/-! acts -/
theorem n_X11_add (hst : l.stackTraces = false) (N : NT G ow m qt s tp hd wr wa ic tc F) {set : Int64} : xQ l G yX11_add cX11_add 3 (some FieldType.int) rm_X11_add [.ref (qt 10), .long set] m (mQi G (fun r m' => set &&& (fst64 s.1.1 ^^^ (-1)) = 0 ∧ 2 ≤ pcn set ∧ ((s.1.2.length = 64 ∧ r = -1 ∧ NTP G ow m F m' qt s tp hd wr wa ic tc) ∨ (s.1.2.length < 64 ∧ r = nI s.1.2.length ∧ NTP G ow m F m' qt ((s.1.1, s.1.2 ++ [set]), pushW s.2.1 s.1, []) tp hd wr wa ic tc)))) (fun E m' => E = exN 1 ∧ (¬ (set &&& (fst64 s.1.1 ^^^ (-1)) = 0) ∨ pcn set < 2) ∧ m' = m) := by
  have N0 := N
  obtain ⟨qn, qd, qh, S, xi, xt, fi, ft, qr, qm, qc, qw, qk, qu, str, stm, stc, stw, stk, stu, hC, hA, hB, hc, hD, rfl⟩ := N
  refine (c_X11_add hst hC (set := set)).mono (mQi.mono (fun r m' ⟨h1, h2, h3⟩ => ⟨h1, h2, ?_⟩)) (fun _ _ z => z)
  rcases h3 with ⟨h3, h4, h5⟩ | ⟨h3, h4, h5⟩
  · exact Or.inl ⟨h3, h4, by rw [h5]; exact NTP.rf N0⟩
  · exact Or.inr ⟨h3, h4, NT.core (s' := (_, _, _)) hC hA hB hc hD h5⟩
theorem n_X11_drop (hst : l.stackTraces = false) (N : NT G ow m qt s tp hd wr wa ic tc F) {i : Int32} : xQ l G yX11_drop cX11_drop 2 (some FieldType.long) rm_X11_drop [.ref (qt 10), .int i] m (mQl G (fun r m' => ∃ j, i = nI j ∧ j < s.1.2.length ∧ r = wl s.1.2 j ∧ NTP G ow m F m' qt ((s.1.1, s.1.2.eraseIdx j), pushW s.2.1 s.1, []) tp hd wr wa ic tc)) (fun E m' => E = exN 0 ∧ (i < 0 ∨ nI s.1.2.length ≤ i) ∧ m' = m) := by
  obtain ⟨qn, qd, qh, S, xi, xt, fi, ft, qr, qm, qc, qw, qk, qu, str, stm, stc, stw, stk, stu, hC, hA, hB, hc, hD, rfl⟩ := N
  refine (c_X11_drop hst hC (i := i)).mono (mQl.mono (fun r m' ⟨j, h1, h2, h3, h4⟩ => ⟨j, h1, h2, h3, ?_⟩)) (fun _ _ z => z)
  exact NT.core (s' := (_, _, _)) hC hA hB hc hD h4
theorem n_X11_dual (N : NT G ow m qt s tp hd wr wa ic tc F) : cQ l G yX11_dual cX11_dual 1 (some FieldType.int) rm_X11_dual [.ref (qt 10)] m (mQi G (fun r m' => r = nI (dualW s.1).1 ∧ NTP G ow m F m' qt (dualW s.1, pushW s.2.1 s.1, []) tp hd wr wa ic tc)) := by
  obtain ⟨qn, qd, qh, S, xi, xt, fi, ft, qr, qm, qc, qw, qk, qu, str, stm, stc, stw, stk, stu, hC, hA, hB, hc, hD, rfl⟩ := N
  refine (c_X11_dual hC).mono (mQi.mono (fun r m' ⟨h1, h2⟩ => ⟨h1, ?_⟩))
  exact NT.core (s' := (_, _, _)) hC hA hB hc hD h2
theorem n_X11_left (hst : l.stackTraces = false) (N : NT G ow m qt s tp hd wr wa ic tc F) {i : Int32} : xQ l G yX11_left cX11_left 2 (some FieldType.int) rm_X11_left [.ref (qt 10), .int i] m (mQi G (fun r m' => ∃ j, i = nI j ∧ j < s.1.1 ∧ r = nI (leftW s.1 j).1 ∧ NTP G ow m F m' qt (leftW s.1 j, pushW s.2.1 s.1, []) tp hd wr wa ic tc)) (fun E m' => E = exN 0 ∧ (i < 0 ∨ nI s.1.1 ≤ i) ∧ m' = m) := by
  obtain ⟨qn, qd, qh, S, xi, xt, fi, ft, qr, qm, qc, qw, qk, qu, str, stm, stc, stw, stk, stu, hC, hA, hB, hc, hD, rfl⟩ := N
  refine (c_X11_left hst hC (i := i)).mono (mQi.mono (fun r m' ⟨j, h1, h2, h3, h4⟩ => ⟨j, h1, h2, h3, ?_⟩)) (fun _ _ z => z)
  exact NT.core (s' := (_, _, _)) hC hA hB hc hD h4
theorem n_X11_undo (N : NT G ow m qt s tp hd wr wa ic tc F) : cQ l G yX11_undo cX11_undo 1 (some FieldType.boolean) rm_X11_undo [.ref (qt 10)] m (mQi G (fun r m' => (s.2.1 = [] ∧ r = 0 ∧ NTP G ow m F m' qt s tp hd wr wa ic tc) ∨ (∃ b0 v, s.2.1 = b0 ++ [v] ∧ r = 1 ∧ NTP G ow m F m' qt (v, b0, s.2.2 ++ [s.1]) tp hd wr wa ic tc))) := by
  have N0 := N
  obtain ⟨qn, qd, qh, S, xi, xt, fi, ft, qr, qm, qc, qw, qk, qu, str, stm, stc, stw, stk, stu, hC, hA, hB, hc, hD, rfl⟩ := N
  refine (core_undo hC).mono (mQi.mono (fun r m' h => ?_))
  rcases h with ⟨h1, h2, h3⟩ | ⟨b0, v, h1, h2, h3⟩
  · exact Or.inl ⟨h1, h2, by rw [h3]; exact NTP.rf N0⟩
  · exact Or.inr ⟨b0, v, h1, h2, NT.core (s' := (_, _, _)) hC hA hB hc hD h3⟩
theorem n_X11_again (N : NT G ow m qt s tp hd wr wa ic tc F) : cQ l G yX11_again cX11_again 1 (some FieldType.boolean) rm_X11_again [.ref (qt 10)] m (mQi G (fun r m' => (s.2.2 = [] ∧ r = 0 ∧ NTP G ow m F m' qt s tp hd wr wa ic tc) ∨ (∃ a0 v, s.2.2 = a0 ++ [v] ∧ r = 1 ∧ NTP G ow m F m' qt (v, s.2.1 ++ [s.1], a0) tp hd wr wa ic tc))) := by
  have N0 := N
  obtain ⟨qn, qd, qh, S, xi, xt, fi, ft, qr, qm, qc, qw, qk, qu, str, stm, stc, stw, stk, stu, hC, hA, hB, hc, hD, rfl⟩ := N
  refine (core_again hC).mono (mQi.mono (fun r m' h => ?_))
  rcases h with ⟨h1, h2, h3⟩ | ⟨b0, v, h1, h2, h3⟩
  · exact Or.inl ⟨h1, h2, by rw [h3]; exact NTP.rf N0⟩
  · exact Or.inr ⟨b0, v, h1, h2, NT.core (s' := (_, _, _)) hC hA hB hc hD h3⟩
/-- why an image or a tray can't be had -/
def NoC {α : Type} (N : Nat) (c : Nat → Option α) (i : Int32) (k : Nat) : Prop := (k = 0 ∧ (i < 0 ∨ ¬ i < nI N)) ∨ (k = 2 ∧ ∃ j, i = nI j ∧ j < N ∧ c j = none)
theorem NoAt.c {α : Type} {N : Nat} (hN : N < 100) {f : Nat → Option Nat} {c : Nat → Option α} {i : Int32} {E : String} (h : NoAt (nI N) f i E) (hc : ∀ j, f j = none → c j = none) : ∃ k, E = exN k ∧ NoC N c i k := by
  rcases h with ⟨h1, h2⟩ | ⟨h1, j, h2, h3, h4, h5⟩
  · exact ⟨0, h1, Or.inl ⟨rfl, h2⟩⟩
  · refine ⟨2, h1, Or.inr ⟨rfl, j, h2, ?_, hc j h5⟩⟩
    rcases Nat.lt_or_ge j N with z | z
    · exact z
    · exact absurd h3 (nI_nlt z (by omega))
theorem at_or {N : Nat} (hN : N < 100) (f : Nat → Option Nat) (i : Int32) : (∃ E, NoAt (nI N) f i E) ∨ ∃ j a, i = nI j ∧ j < N ∧ f j = some a := by
  by_cases h1 : i < 0
  · exact Or.inl ⟨_, Or.inl ⟨rfl, Or.inl h1⟩⟩
  · obtain ⟨j, hj, rfl⟩ := nI_of h1
    rcases Nat.lt_or_ge j N with h2 | h2
    · cases hf : f j with
      | none => exact Or.inl ⟨_, Or.inr ⟨rfl, j, rfl, nI_lt h2 (by omega), by omega, hf⟩⟩
      | some a => exact Or.inr ⟨j, a, rfl, h2, hf⟩
    · exact Or.inl ⟨_, Or.inl ⟨rfl, Or.inr (nI_nlt h2 hj)⟩⟩
theorem n_X11_perform (hst : l.stackTraces = false) (N : NT G ow m qt s tp hd wr wa ic tc F) {i : Int32} : xQ l G yX11_perform cX11_perform 6 (some FieldType.int) rm_X11_perform [.ref (qt 10), .int i] m (mQi G (fun r m' => ∃ (j so : Nat) (row : List Int64), i = nI j ∧ j < 4 ∧ tc j = some (so, row) ∧ r = nI (perfM row 40 0 s).1 ∧ NTP G ow m F m' qt (perfM row 40 0 s).2 tp hd wr wa ic tc)) (fun E m' => (∃ k, E = exN k ∧ NoC 4 tc i k) ∧ m' = m) := by
  obtain ⟨qn, qd, qh, S, xi, xt, fi, ft, qr, qm, qc, qw, qk, qu, str, stm, stc, stw, stk, stu, hC, hA, ⟨b1, b2, b3⟩, hc, hD, rfl⟩ := N
  refine (c_X11_perform hst hC b1 b2 b3 (i := i)).mono (mQi.mono (fun r m' ⟨j, so, row, h1, h2, h3, h4, h5⟩ => ⟨j, so, row, h1, h2, h3, h4, ?_⟩)) (fun E m' ⟨h1, h2⟩ => ⟨h1.c (by decide) b3.1, h2⟩)
  exact NT.core (s' := (_, _, _)) hC hA ⟨b1, b2, b3⟩ hc hD h5
end N1
