/-! the text: the reference's world -/
def rdV : RD → Int32
  | .inl (_, _, l) => nI l.length
  | .inr (k, _) => (-10 : Int32) - nI k
def rdS (s : Wst) : RD → Wst
  | .inl (_, p, l) => ((p, l), [], [])
  | .inr _ => s
def rdW : RD → Int32
  | .inl _ => 0
  | .inr (k, _) => nI k
def rdA : RD → Int32
  | .inl _ => -1
  | .inr (_, q) => nI q
theorem pour_12 {x : OS} {l : List Int64} (h1 : x.1 1 = nI l.length) (hl : l.length ≤ 64) (h2 : ∀ i, i < l.length → x.2.2.2 17 i = wl l i) : ∃ y, lpv f_X12_world_180 (x, 0) = some y ∧ y.1 = x.1 ∧ y.2.2.1 = x.2.2.1 ∧ (∀ k, k ≠ 3 → y.2.2.2 k = x.2.2.2 k) ∧ ∀ i, i < l.length → y.2.2.2 3 i = wl l i := by
  have key := lpv_inv (f := f_X12_world_180) (fun k z => z.2 = nI k ∧ z.1.1 = x.1 ∧ z.1.2.2.1 = x.2.2.1 ∧ (∀ k, k ≠ 3 → z.1.2.2.2 k = x.2.2.2 k) ∧ ∀ i, i < k → z.1.2.2.2 3 i = wl l i) l.length (fun y => y.1 = x.1 ∧ y.2.2.1 = x.2.2.1 ∧ (∀ k, k ≠ 3 → y.2.2.2 k = x.2.2.2 k) ∧ ∀ i, i < l.length → y.2.2.2 3 i = wl l i) (fun k z hk hI => Or.inl ?_) (fun z hI => ?_) 0 (x, 0) (Nat.zero_le _) ⟨rfl, rfl, rfl, fun _ _ => rfl, fun i hi => absurd hi (Nat.not_lt_zero _)⟩
  · obtain ⟨y, e1, e2⟩ := key
    exact ⟨y, e1, e2⟩
  · obtain ⟨y, b⟩ := z
    obtain ⟨g1, g2, g3, g4, g5⟩ := hI
    dsimp only at g1 g2 g3 g4 g5
    subst g1
    refine ⟨(oB y 3 (vp_updL (y.2.2.2 3) k (y.2.2.2 17 k)), nI (k + 1)), ?_, rfl, g2, g3, fun j hj => ?_, fun i hi => ?_⟩
    · unfold f_X12_world_180
      dsimp only
      rw [g2, h1, if_neg (nI_ge hk (by omega)), if_pos (inb_t (by omega) (by omega)), nI_clamp (by omega)]
      dsimp only [bnd]
      rw [nI_1]
    · dsimp only
      rw [oB_ne _ hj]
      exact g4 j hj
    · dsimp only
      rw [oB_self]
      unfold vp_updL
      by_cases q : i = k
      · rw [if_pos q, q, g4 17 (by decide)]
        exact h2 k hk
      · rw [if_neg q]
        exact g5 i (by omega)
  · obtain ⟨y, b⟩ := z
    obtain ⟨g1, g2, g3, g4, g5⟩ := hI
    dsimp only at g1 g2 g3 g4 g5
    subst g1
    refine ⟨y, ?_, g2, g3, g4, g5⟩
    unfold f_X12_world_180
    dsimp only
    rw [g2, h1, if_pos (nI_le (Nat.le_refl _) (by omega))]
theorem snaps_nil {P M : Nat → Int32} {B : Nat → Int64} : Snaps P M B [] := fun k w z => by simp at z
theorem world_12 {st : OS} {s : Wst} {tp : Nat → Int32} {hd : Nat} {wr wa : Int32} {ic : Nat → Option Wd} {tc : Nat → Option (Nat × List Int64)} (h : RR st s tp hd wr wa ic tc) (hB : ∀ i, i < hd → tp i = nI (tpN tp i) ∧ tpN tp i < 256) {n : Nat} (hn : n ≤ hd) : ∃ x, f_X12_world st (nI n) = some (rdV (readP (tpN tp) n), x) ∧ x.1 2 = 0 ∧ RR x (rdS s (readP (tpN tp) n)) tp 0 (rdW (readP (tpN tp) n)) (rdA (readP (tpN tp) n)) ic tc := by
  obtain ⟨hw, hH, ⟨h5, hh, hb⟩, -, hT, hI⟩ := h
  obtain ⟨t, ht⟩ : ∃ t, t = oI (oI (oI (oI (oI (oI (oI st 2 0) 6 (nI n)) 5 0) 7 0) 11 0) 15 0) 16 0 := ⟨_, rfl⟩
  have kt : (∀ k, k ≠ 2 → k ≠ 6 → k ≠ 5 → k ≠ 7 → k ≠ 11 → k ≠ 15 → k ≠ 16 → t.1 k = st.1 k) ∧ t.2 = st.2 := by
    rw [ht]
    exact ⟨fun k a b c d e f g => by rw [oI_ne _ g, oI_ne _ f, oI_ne _ e, oI_ne _ d, oI_ne _ c, oI_ne _ b, oI_ne _ a], rfl⟩
  have hR : RB12 t (tpN tp) n := by
    refine ⟨by rw [ht]; rfl, by omega, fun i hi => ?_⟩
    obtain ⟨b1, b2⟩ := hB i (by omega)
    refine ⟨b2, ?_⟩
    rw [kt.2, hb i (by omega)]
    exact b1
  have h7 : t.1 7 = nI 0 := by rw [ht]; rfl
  have h11 : t.1 11 = 0 := by rw [ht]; rfl
  have h15 : t.1 15 = nI 0 := by rw [ht]; rfl
  have h16 : t.1 16 = nI 0 := by rw [ht]; rfl
  have t2 : t.1 2 = 0 := by rw [ht]; rfl
  have t5 : t.1 5 = nI 0 := by rw [ht]; rfl
  obtain ⟨x0, e1, k1, t1⟩ := reads_12 hR h7 (Nat.zero_le _)
  obtain ⟨y, e2, k2, m2⟩ := lines_12 (hR.k k1) ⟨t1, Nat.zero_le _, (k1.2 11 (by decide) (by decide) (by decide) (by decide)).trans h11, (k1.2 15 (by decide) (by decide) (by decide) (by decide)).trans h15, (k1.2 16 (by decide) (by decide) (by decide) (by decide)).trans h16, Nat.zero_le _, fun i hi => absurd hi (Nat.not_lt_zero _)⟩
  have kw : KW12 t y := k1.w.tr k2
  have kI : ∀ k, k ≠ 2 → k ≠ 6 → k ≠ 5 → k ≠ 7 → k ≠ 8 → k ≠ 9 → k ≠ 10 → k ≠ 11 → k ≠ 12 → k ≠ 15 → k ≠ 16 → y.1 k = st.1 k := fun k a b c d e f g i j m n => (kw.1 k d e f g i j m n).trans (kt.1 k a b c d i m n)
  have kA : ∀ k, k ≠ 18 → k ≠ 19 → y.2.2.1 k = st.2.2.1 k := fun k a b => (kw.2.1 k a b).trans (by rw [kt.2])
  have kB : ∀ k, k ≠ 17 → y.2.2.2 k = st.2.2.2 k := fun k a => (kw.2.2 k a).trans (by rw [kt.2])
  have y2 : y.1 2 = 0 := (kw.1 2 (by decide) (by decide) (by decide) (by decide) (by decide) (by decide) (by decide) (by decide)).trans t2
  have y5 : y.1 5 = nI 0 := (kw.1 5 (by decide) (by decide) (by decide) (by decide) (by decide) (by decide) (by decide) (by decide)).trans t5
  have hin : f_X12_within ((nI n : Int32).toInt64) 0 (((oI st 2 0).1 5 : Int32).toInt64) = some 1 := by
    rw [oI_ne _ (by decide), h5, show (0 : Int64) = (nI 0).toInt64 from rfl, within_g, if_neg (fun z => z.elim (nI_nlt (Nat.zero_le _) (by omega)) (nI_nlt (by omega) (by omega)))]
  unfold f_X12_world
  dsimp only [bnd]
  rw [hin, ob_s, if_neg ne10, ← ht, e1, ob_s, e2, ob_s]
  cases hr : readP (tpN tp) n with
  | inl z =>
    obtain ⟨a, p, l⟩ := z
    rw [hr] at m2
    obtain ⟨-, -, m11, m15, m16, m17, m18⟩ := m2
    have hp : p ≤ 64 := by
      have := read_wf (tpN tp) n
      rw [hr] at this
      exact this.2
    rw [m11, oI_ne _ (show (11 : Nat) ≠ 13 by decide), m11, if_pos rfl, oI_ne _ (show (11 : Nat) ≠ 14 by decide), oI_ne _ (show (11 : Nat) ≠ 13 by decide), m11, if_pos rfl]
    obtain ⟨v, hv⟩ : ∃ v, v = oI (oI y 13 0) 14 (-1) := ⟨_, rfl⟩
    have v15 : v.1 15 = nI p := by rw [hv, oI_ne _ (by decide), oI_ne _ (by decide)]; exact m15
    obtain ⟨w, hw'⟩ : ∃ w, w = oI v 0 (v.1 15) := ⟨_, rfl⟩
    have w16 : w.1 16 = nI l.length := by rw [hw', oI_ne _ (by decide), hv, oI_ne _ (by decide), oI_ne _ (by decide)]; exact m16
    obtain ⟨u, hu⟩ : ∃ u, u = oI w 1 (w.1 16) := ⟨_, rfl⟩
    have u1 : u.1 1 = nI l.length := by rw [hu, oI_self]; exact w16
    have u0 : u.1 0 = nI p := by rw [hu, oI_ne _ (by decide), hw', oI_self]; exact v15
    have u2 : u.2 = y.2 := by rw [hu, hw', hv]; rfl
    have uI : ∀ k, k ≠ 0 → k ≠ 1 → k ≠ 13 → k ≠ 14 → u.1 k = y.1 k := fun k a b c d => by rw [hu, oI_ne _ b, hw', oI_ne _ a, hv, oI_ne _ d, oI_ne _ c]
    have u13 : u.1 13 = 0 := by rw [hu, oI_ne _ (by decide), hw', oI_ne _ (by decide), hv]; rfl
    have u14 : u.1 14 = -1 := by rw [hu, oI_ne _ (by decide), hw', oI_ne _ (by decide), hv]; rfl
    obtain ⟨q, q1, q2, q3, q4, q5⟩ := pour_12 u1 m17 (fun i hi => by rw [u2]; exact m18 i hi)
    rw [← hv, ← hw', ← hu, q1, ob_s]
    refine ⟨oI (oI q 44 0) 45 0, ?_, ?_, ⟨?_, ?_, hp, m17, q5⟩, ⟨rfl, rfl, by show 0 + 0 ≤ 20; decide, snaps_nil, snaps_nil⟩, ⟨?_, by decide, fun i hi => absurd hi (Nat.not_lt_zero _)⟩, ⟨?_, ?_⟩, hT.cong ?_ ?_ ?_, hI.cong ?_ ?_ ?_ ?_⟩
    · rw [oI_ne _ (by decide), oI_ne _ (by decide), q2, u1]
      rfl
    · rw [oI_ne _ (by decide), oI_ne _ (by decide), q2, uI 2 (by decide) (by decide) (by decide) (by decide)]; exact y2
    · rw [oI_ne _ (by decide), oI_ne _ (by decide), q2]; exact u0
    · rw [oI_ne _ (by decide), oI_ne _ (by decide), q2]; exact u1
    · rw [oI_ne _ (by decide), oI_ne _ (by decide), q2, uI 5 (by decide) (by decide) (by decide) (by decide)]; exact y5
    · rw [oI_ne _ (by decide), oI_ne _ (by decide), q2]; exact u13
    · rw [oI_ne _ (by decide), oI_ne _ (by decide), q2]; exact u14
    · exact (congrFun q3 46).trans (by rw [u2]; exact kA 46 (by decide) (by decide))
    · exact (congrFun q3 47).trans (by rw [u2]; exact kA 47 (by decide) (by decide))
    · exact (q4 48 (by decide)).trans (by rw [u2]; exact kB 48 (by decide))
    · exact (congrFun q3 49).trans (by rw [u2]; exact kA 49 (by decide) (by decide))
    · exact (congrFun q3 50).trans (by rw [u2]; exact kA 50 (by decide) (by decide))
    · exact (congrFun q3 51).trans (by rw [u2]; exact kA 51 (by decide) (by decide))
    · exact (q4 52 (by decide)).trans (by rw [u2]; exact kB 52 (by decide))
  | inr z =>
    obtain ⟨k, e⟩ := z
    rw [hr] at m2
    obtain ⟨m11, m12, m3, m4⟩ := m2
    have hne : ¬ nI k = (0 : Int32) := nI_ne_0 m3 m4
    rw [m11, oI_ne _ (show (11 : Nat) ≠ 13 by decide), m11, if_neg hne, oI_ne _ (show (12 : Nat) ≠ 13 by decide), m12, oI_ne _ (show (11 : Nat) ≠ 14 by decide), oI_ne _ (show (11 : Nat) ≠ 13 by decide), m11, if_neg hne]
    refine ⟨oI (oI y 13 (nI k)) 14 (nI e), rfl, ?_, hw.cong ?_ ?_ ?_, ⟨?_, ?_, hH.2.2.1, ?_, ?_⟩, ⟨?_, by decide, fun i hi => absurd hi (Nat.not_lt_zero _)⟩, ⟨?_, ?_⟩, hT.cong ?_ ?_ ?_, hI.cong ?_ ?_ ?_ ?_⟩
    · rw [oI_ne _ (by decide), oI_ne _ (by decide)]; exact y2
    · rw [oI_ne _ (by decide), oI_ne _ (by decide)]; exact kI 0 (by decide) (by decide) (by decide) (by decide) (by decide) (by decide) (by decide) (by decide) (by decide) (by decide) (by decide)
    · rw [oI_ne _ (by decide), oI_ne _ (by decide)]; exact kI 1 (by decide) (by decide) (by decide) (by decide) (by decide) (by decide) (by decide) (by decide) (by decide) (by decide) (by decide)
    · exact kB 3 (by decide)
    · rw [oI_ne _ (by decide), oI_ne _ (by decide)]; exact (kI 44 (by decide) (by decide) (by decide) (by decide) (by decide) (by decide) (by decide) (by decide) (by decide) (by decide) (by decide)).trans hH.1
    · rw [oI_ne _ (by decide), oI_ne _ (by decide)]; exact (kI 45 (by decide) (by decide) (by decide) (by decide) (by decide) (by decide) (by decide) (by decide) (by decide) (by decide) (by decide)).trans hH.2.1
    · have := hH.2.2.2.1
      rw [← kA 40 (by decide) (by decide), ← kA 41 (by decide) (by decide), ← kB 38 (by decide)] at this
      exact this
    · have := hH.2.2.2.2
      rw [← kA 42 (by decide) (by decide), ← kA 43 (by decide) (by decide), ← kB 39 (by decide)] at this
      exact this
    · rw [oI_ne _ (by decide), oI_ne _ (by decide)]; exact y5
    · rw [oI_ne _ (by decide), oI_self]; rfl
    · rw [oI_self]; rfl
    · exact kA 46 (by decide) (by decide)
    · exact kA 47 (by decide) (by decide)
    · exact kB 48 (by decide)
    · exact kA 49 (by decide) (by decide)
    · exact kA 50 (by decide) (by decide)
    · exact kA 51 (by decide) (by decide)
    · exact kB 52 (by decide)
theorem world_no {st : OS} {s : Wst} {tp : Nat → Int32} {hd : Nat} {wr wa : Int32} {ic : Nat → Option Wd} {tc : Nat → Option (Nat × List Int64)} (h : RR st s tp hd wr wa ic tc) {a0 : Int32} (ha : a0 < 0 ∨ nI hd < a0) : ∃ x, f_X12_world st a0 = some (0, x) ∧ x.1 2 = 1 ∧ RR x s tp hd wr wa ic tc := by
  refine ⟨oI (oI st 2 0) 2 1, ?_, oI_self _ _ _, (h.thr 0).thr 1⟩
  have hin : f_X12_within ((a0 : Int32).toInt64) 0 (((oI st 2 0).1 5 : Int32).toInt64) = some 0 := by
    rw [oI_ne _ (by decide), h.2.2.1.1, show (0 : Int64) = (nI 0).toInt64 from rfl, within_g, if_pos (show a0 < nI 0 ∨ nI hd < a0 from ha)]
  unfold f_X12_world
  dsimp only [bnd]
  rw [hin, ob_s, if_pos rfl]
  rfl
