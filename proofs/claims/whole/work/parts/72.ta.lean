/-! turnings: reaches widened, turnings counted -/
theorem rf_len {N : Nat} {l m l' m' : List Int64} (g : KP N l m) (g' : KP N l' m') (h : RF l m l' m') : l.length ≤ l'.length :=
  fb_holes _ _ (fun k => kf l' (low (wl l k))) (fun j hj => (kf_ok g'.1 (g.1.1 j _ hj (low_tb (g.2.2.2.1 j hj)).1)).1) (fun a b hab hb e => by
    have x1 := (low_tb (g.2.2.2.1 a (by omega))).1
    have x2 := (low_tb (g.2.2.2.1 b hb)).1
    obtain ⟨u1, u2⟩ := kf_ok g'.1 (g.1.1 a _ (by omega) x1)
    obtain ⟨z1, z2⟩ := kf_ok g'.1 (g.1.1 b _ hb x2)
    have e' : kf l' (low (wl l a)) = kf l' (low (wl l b)) := e
    rw [← e'] at z2
    obtain ⟨o, o1, o2, _⟩ := h _ u1
    have p1 := g.1.2.2 _ _ _ o1 (by omega) (o2 _ u2) x1
    have p2 := g.1.2.2 _ _ _ o1 hb (o2 _ z2) x2
    omega)
theorem DEP.len {w : Wd} {dep : Nat} (h : DEP w dep) : ∀ d, d < dep → d < (SA w d).length := by
  intro d
  induction d with
  | zero =>
    intro hd
    obtain ⟨k, _, hk, _⟩ := h.bs hd
    omega
  | succ d ih =>
    intro hd
    obtain ⟨⟨a1, a2, a3, a4⟩, _⟩ := h.2.1 (d + 1) hd
    have h1 := ih (by omega)
    have h2 := rf_len a1 a2 a4
    obtain ⟨k, _, _, _, _, _, _, hR⟩ := h.bs (show d < dep by omega)
    rw [hR, spl_len] at h2
    omega
theorem DEP.lt {w : Wd} {dep : Nat} (h : DEP w dep) {d k : Nat} (hu : und (SA w d) = some k) : d < dep := by
  rcases Nat.lt_or_ge d dep with q | q
  · exact q
  · rw [h.2.2.1 d q] at hu; cases hu
/-- classes that turnings make: of those that keep the first d -/
def CL8 (c : Nat → Int32) (w : Wd) (d : Nat) : Prop := (∀ x y, x < w.1 → y < w.1 → c x = c y → ∃ h, AUT w d h ∧ h x = y ∧ ∀ z, z < w.1 → c z = c (h z)) ∧ ∀ π, AUT w d π → ∀ z, z < w.1 → c z = c (π z)
/-- reaches: of the first d nothing is known yet -/
def RC8 (s : OS) (w : Wd) (dep d : Nat) : Prop := (∀ e, e < d → s.2.2.2 13 e = bit1 (bsA w e)) ∧ ∀ e, d ≤ e → e < dep → ∀ x, tb (s.2.2.2 13 e) x = true ↔ OB w e (bsA w e) x
def WS8 (s : OS) (w : Wd) (dep d : Nat) : Prop := LD8 s w w ∧ (∀ e, e < d → RW8 s e (SA w e) (SA w e) ∧ s.2.2.1 14 e = nI (bsA w e)) ∧ RC8 s w dep d ∧ CL8 (s.2.2.1 12) w d
theorem rc_HR {s : OS} {w : Wd} {dep d : Nat} (hN : w.1 ≤ 16) (hD : DEP w dep) (h : RC8 s w dep d) : HR8 s w := fun e k he hu => by
  have hed := hD.lt hu
  obtain ⟨k', hu', k1, t1, tN, k2, t3, hR⟩ := hD.bs hed
  rw [hu] at hu'
  cases hu'
  rcases Nat.lt_or_ge e d with q | q
  · rw [h.1 e q]
    exact ⟨by rw [tb_bit1 (by omega)]; exact decide_eq_true rfl, fun x z => by
      rw [tb_bit1 (by omega)] at z
      rw [of_decide_eq_true z]; exact t1⟩
  · refine ⟨(h.2 e q hed _).mpr ⟨_, AUT.id, rfl⟩, fun x z => ?_⟩
    obtain ⟨π, g1, g2⟩ := (h.2 e q hed x).mp z
    rw [← g2]
    exact (g1.rows hN hD (by omega)).2 e hed (Nat.le_refl _) k _ k1 t1
section T8W
variable {st : OS} {w : Wd} {dep d : Nat}
theorem widen_8 (hD : DEP w dep) (hd : d < dep) (h : WS8 st w dep (d + 1)) : ∃ x, f_X8_widenReach st (nI d) = some (nI (pcn (x.2.2.2 13 d)), x) ∧ WS8 x w dep d := by
  obtain ⟨hL, hrow, hrc, hcl⟩ := h
  have hN := hL.2.2.1
  have hd15 := hD.1
  obtain ⟨k, hu, k1, t1, tN, k2, t3, hR⟩ := hD.bs hd
  obtain ⟨⟨aK, hK, aR, aF⟩, _⟩ := hD.2.1 d hd
  have hlen := hK.len
  have hdl := hD.len d hd
  have hne := hK.2.2.2.1 k k1
  have hbs := bsA_eq hu
  obtain ⟨b, hb⟩ : ∃ b, b = bsA w d := ⟨_, rfl⟩
  rw [← hb] at t1 tN t3 hR hbs
  have hrd := (hrow d (by omega)).1
  have key := lpv_inv (f := f_X8_widenReach_37 (nI d) (nI k) (nI b)) (fun to z => z.2.2 = nI to ∧ LD8 z.1 w w ∧ (∀ e, e < d + 1 → RW8 z.1 e (SA w e) (SA w e)) ∧ (∀ e, e < d → z.1.2.2.1 14 e = nI (bsA w e)) ∧ z.1.2.2.2 13 = st.2.2.2 13 ∧ (∀ x y, x < w.1 → y < w.1 → z.1.2.2.1 12 x = z.1.2.2.1 12 y → ∃ h, AUT w d h ∧ h x = y ∧ ∀ o, o < w.1 → z.1.2.2.1 12 o = z.1.2.2.1 12 (h o)) ∧ (∀ π, AUT w (d + 1) π → ∀ o, o < w.1 → z.1.2.2.1 12 o = z.1.2.2.1 12 (π o)) ∧ (∀ x, b < x → x < to → tb (wl (SA w d) k) x = true → z.1.2.2.1 12 x = z.1.2.2.1 12 b ∨ ¬ OB w d b x) ∧ (∀ x, tb (wl (SA w d) k) x = true → ¬ tb z.2.1 x = true → ¬ OB w d b x) ∧ ∀ x, tb z.2.1 x = true → tb (wl (SA w d) k) x = true) w.1 (fun x => LD8 x w w ∧ (∀ e, e < d + 1 → RW8 x e (SA w e) (SA w e)) ∧ (∀ e, e < d → x.2.2.1 14 e = nI (bsA w e)) ∧ x.2.2.2 13 = st.2.2.2 13 ∧ (∀ u y, u < w.1 → y < w.1 → x.2.2.1 12 u = x.2.2.1 12 y → ∃ h, AUT w d h ∧ h u = y ∧ ∀ o, o < w.1 → x.2.2.1 12 o = x.2.2.1 12 (h o)) ∧ (∀ π, AUT w (d + 1) π → ∀ o, o < w.1 → x.2.2.1 12 o = x.2.2.1 12 (π o)) ∧ ∀ y, b < y → tb (wl (SA w d) k) y = true → x.2.2.1 12 y = x.2.2.1 12 b ∨ ¬ OB w d b y) (fun to z hto hI => Or.inl ?_) (fun z hI => ?_) (b + 1) (st, wl (SA w d) k, nI (b + 1)) (by omega) ⟨rfl, hL, fun e he => (hrow e he).1, fun e he => (hrow e (by omega)).2, rfl, fun x y hx hy e => ?_, hcl.2, fun x h1 h2 => by omega, fun x h1 h2 => absurd h1 h2, fun x h1 => h1⟩
  · obtain ⟨x, e1, e2, e3, e4, e5, e6, e7, e8⟩ := key
    have hO : ∀ y, tb (clS (x.2.2.1 12) w.1 b) y = true ↔ OB w d b y := fun y => by
      rw [tb_clS (by omega)]
      constructor
      · rintro ⟨h1, h2⟩
        obtain ⟨h, g1, g2, _⟩ := e6 b y tN h1 h2.symm
        exact ⟨h, g1, g2⟩
      · intro hy
        have hyN := hy.lt tN
        refine ⟨hyN, ?_⟩
        obtain ⟨π, g1, g2⟩ := hy
        have hyk : tb (wl (SA w d) k) y = true := by
          rw [← g2]
          exact (g1.rows hN hD (by omega)).2 d hd (Nat.le_refl _) k b k1 t1
        rcases Nat.lt_trichotomy y b with q | q | q
        · rw [t3 y q] at hyk; cases hyk
        · rw [q]
        · rcases e8 y q hyk with z | z
          · exact z
          · exact absurd ⟨π, g1, g2⟩ z
    refine ⟨oB x 13 (vp_updL (x.2.2.2 13) d (clS (x.2.2.1 12) w.1 b)), ?_, e2.cong rfl (fun j hj => by rw [oB_ne _ (by omega)]), fun e he => ⟨?_, e4 e he⟩, ⟨fun e he => ?_, fun e h1 h2 y => ?_⟩, ⟨e6, fun π g1 o ho => ?_⟩⟩
    · have h13 : (oB x 13 (vp_updL (x.2.2.2 13) d (clS (x.2.2.1 12) w.1 b))).2.2.2 13 d = clS (x.2.2.1 12) w.1 b := by rw [oB_self]; exact if_pos rfl
      unfold f_X8_widenReach
      rw [und_8 (by omega) hrd (by omega), ob_s, hu, oN_some, if_neg (nI_m1 (n := k) (by omega)), ix64, if_pos (inb_t (by omega) (by omega)), nI_clamp (by omega), hrd.2.2.1 k k1]
      dsimp only [bnd]
      rw [lowest_10, ob_s, if_neg hne, ← hbs, nI_1, e1, ob_s, classOf_8 e2.1 hN (by omega), ob_s, if_pos (inb_t (by omega) (by omega)), nI_clamp (by omega), h13, bitCount_13, ob_s]
    · obtain ⟨z1, z2, z3, z4⟩ := e3 e (by omega)
      exact ⟨z1, z2, fun k hk => by rw [oB_ne (j := 7) _ (by decide)]; exact z3 k hk, fun k hk => by rw [oB_ne (j := 8) _ (by decide)]; exact z4 k hk⟩
    · rw [oB_self]
      unfold vp_updL
      rw [if_neg (by omega), e5]
      exact hrc.1 e (by omega)
    · rw [oB_self]
      unfold vp_updL
      by_cases q : e = d
      · rw [if_pos q, q, ← hb]; exact hO y
      · rw [if_neg q, e5]
        exact hrc.2 e (by omega) h2 y
    · show x.2.2.1 12 o = x.2.2.1 12 (π o)
      have hy : OB w d b (π b) := ⟨π, g1, rfl⟩
      have h1 := (hO (π b)).mpr hy
      rw [tb_clS (by omega)] at h1
      obtain ⟨h, i1, i2, i3⟩ := e6 b (π b) tN h1.1 h1.2.symm
      have hi := i1.inv hD (by omega)
      have hA : AUT w (d + 1) (fun p => binv w.1 h (π p)) := ⟨(hi.comp g1).1, fun e he => by
        rcases Nat.lt_or_ge e d with q | q
        · exact (hi.comp g1).2 e q
        · rw [show e = d by omega, ← hb]
          dsimp only
          rw [← i2]
          exact binv_l i1.1.bj tN⟩
      have h2 := e7 _ hA o ho
      have h3 := i3 _ (hA.1.bj.1 o ho)
      dsimp only at h2 h3
      rw [h2, h3, (binv_ok i1.1.bj (g1.1.bj.1 o ho)).2]
  · obtain ⟨s, op, c⟩ := z
    obtain ⟨g1, g2, g3, g4, g5, g6, g7, g8, g9, g10⟩ := hI
    dsimp only at g1 g2 g3 g4 g5 g6 g7 g8 g9 g10
    subst g1
    have hst : f_X8_widenReach_37 (nI d) (nI k) (nI b) (s, op, nI to) = if tb op to = true then (if tb (clS (s.2.2.1 12) w.1 b) to = true then some (.inl (s, op, nI (to + 1))) else (f_X8_tellApart s (nI d) (nI k) (nI b) (nI to)).bind (fun x30 => (f_X8_carryOn 20 x30 (nI (d + 1))).bind (fun x33 => if x33.1 = 0 then (f_X8_classOf x33.2 (nI to)).bind (fun x38 => some (.inl (x33.2, op &&& (x38 ^^^ (-1)), nI (to + 1)))) else (f_X8_mergeClasses x33.2).bind (fun x45 => some (.inl (x45, op, nI (to + 1))))))) else some (.inl (s, op, nI (to + 1))) := by
      unfold f_X8_widenReach_37
      dsimp only
      rw [g2.1, if_neg (nI_ge hto (by omega)), if_neg (show ¬ (16 : Int32) ≤ nI to from nI_ge (b := 16) (by omega) (by decide)), has_10 (by omega), ob_s]
      dsimp only [bnd]
      rw [nI_1, nI_1]
      cases hbo : tb op to with
      | false => rw [if_pos b2f, if_neg (by decide)]
      | true =>
        rw [if_neg b2t, if_pos rfl, classOf_8 g2.1 hN (by omega), ob_s, has_10 (by omega), ob_s]
        cases hbc : tb (clS (s.2.2.1 12) w.1 b) to with
        | true => rw [if_neg b2t, if_pos rfl]
        | false => rw [if_pos b2f, if_neg (by decide)]
    have next : (tb (wl (SA w d) k) to = true → s.2.2.1 12 to = s.2.2.1 12 b ∨ ¬ OB w d b to) → ∀ x, b < x → x < to + 1 → tb (wl (SA w d) k) x = true → s.2.2.1 12 x = s.2.2.1 12 b ∨ ¬ OB w d b x := fun hz x h1 h2 h3 => by
      rcases Nat.lt_or_ge x to with q | q
      · exact g8 x h1 q h3
      · have : x = to := by omega
        subst this
        exact hz h3
    by_cases hbo : tb op to = true
    · have hkt := g10 to hbo
      by_cases hbc : tb (clS (s.2.2.1 12) w.1 b) to = true
      · refine ⟨(s, op, nI (to + 1)), by rw [hst, if_pos hbo, if_pos hbc], rfl, g2, g3, g4, g5, g6, g7, next (fun _ => Or.inl ?_), g9, g10⟩
        rw [tb_clS (by omega)] at hbc
        exact hbc.2
      · have hsub : ∀ p, p < 64 → tb (wl (SA w d) k) p = true → ∀ i, tb (bit1 p) i = true → tb (wl (SA w d) k) i = true := fun p hp hpk i z => by
          rw [tb_bit1 hp] at z
          rw [of_decide_eq_true z]; exact hpk
        have hwp : bit1 b ≠ wl (SA w d) k := fun z => by rw [← z, pcn_bit1 (by omega)] at k2; omega
        have hP2 := hK.split k1 (hsub b (by omega) t1) (hsub to (by omega) hkt) (bit1_ne (by omega)) hwp (by rw [pcn_bit1 (by omega), pcn_bit1 (by omega)])
        obtain ⟨x, y1, y2, y3⟩ := tellApart_8 (N := w.1) (show d + 1 < 16 by omega) (g3 d (by omega)) (by omega) hK k1 k2 (p := b) (by omega) (t := to) (by omega) (by omega)
        have hLx := g2.t y3.t
        have hrcx : RC8 x w dep (d + 1) := by
          have e13 : x.2.2.2 13 = st.2.2.2 13 := by rw [y3.2.2.1 13 (by decide) (by decide), g5]
          refine ⟨fun e he => by rw [e13]; exact hrc.1 e he, fun e h1 h2 y => by rw [e13]; exact hrc.2 e h1 h2 y⟩
        obtain ⟨c2, y, z1, z2, z3, z4, z5⟩ := carryOn_8 20 (d + 1) x _ _ (by omega) (by omega) hLx y2 hP2 hR.symm (Or.inl (by rw [spl_len]; omega)) (rc_HR hN hD hrcx) (fun e he => by
          obtain ⟨k', hu', _⟩ := hD.bs (show e < dep by omega)
          rw [hu']
          exact fun z => by cases z)
        have hLy := hLx.t z2
        have e12 : y.2.2.1 12 = s.2.2.1 12 := by rw [z2.2.1 12 (by decide) (by decide) (by decide), y3.2.1 12 (by decide) (by decide)]
        have e13 : y.2.2.2 13 = st.2.2.2 13 := by rw [z2.2.2.1 13 (by decide) (by decide) (by decide) (by decide), y3.2.2.1 13 (by decide) (by decide), g5]
        have eR : ∀ e, e < d + 1 → RW8 y e (SA w e) (SA w e) := fun e he => by
          have hle := (hD.2.1 e (by omega)).1.2.1.len
          exact z2.row he (by omega) (y3.t.row he (by omega) (g3 e he))
        have e14 : ∀ e, e < d → y.2.2.1 14 e = nI (bsA w e) := fun e he => by
          rw [z2.2.2.2.2.1 e (by omega), y3.2.2.2.2.1 e (by omega)]
          exact g4 e he
        rcases z3 with z3 | z3
        · subst z3
          have hno : ¬ OB w d b to := fun ⟨g, i1, i2⟩ => by
            obtain ⟨h, j1, j2⟩ := min_ex hD g (d := d + 1) (dep - (d + 1)) (by omega)
            have hA : AUT w d (fun p => g (h p)) := i1.comp (j1.le (by omega))
            have hbt : g (h b) = to := by rw [hb, j1.2 d (by omega), ← hb, i2]
            refine absurd (z5 ⟨fun p => g (h p), hA.1, ?_, fun e he => ?_, fun e k' y he hu' hy => ?_⟩) (by decide)
            · have h9 := (hA.rows hN hD (by omega)).2 d hd (Nat.le_refl _)
              refine h9.split (hsub b (by omega) t1) rfl k1 (fun i hi => ?_)
              rw [tb_bit1 (by omega), tb_bit1 (by omega)]
              have hiN := hK.1.1 k i k1 hi
              by_cases q : i = b
              · rw [decide_eq_true q, q, hbt, decide_eq_true rfl]
              · rw [decide_eq_false q, decide_eq_false (fun z => q (hA.1.bj.2 i b hiN tN (by dsimp only; rw [hbt]; exact z)))]
            · rcases Nat.lt_or_ge e d with q | q
              · rw [y3.2.2.2.2.1 e (by omega), g4 e q, hA.2 e q]
              · rw [show e = d by omega, ← hb, y3.2.2.2.2.2.1]
                dsimp only
                rw [hbt]
            · have hed := hD.lt hu'
              rcases Nat.lt_or_ge e (d + 1) with q | q
              · rw [hrcx.1 e q] at hy
                have hbe := (hD.bs hed)
                obtain ⟨_, _, _, _, hbN, _⟩ := hbe
                rw [tb_bit1 (by omega)] at hy
                rw [of_decide_eq_true hy]
                exact Nat.le_refl _
              · exact j2 e q (by omega) y ((hrcx.2 e q hed y).mp hy)
          have hcl2 : ∀ u, tb (clS (y.2.2.1 12) w.1 to) u = true → ¬ OB w d b u := fun u hu2 ⟨g, i1, i2⟩ => by
            rw [tb_clS (by omega), e12] at hu2
            obtain ⟨h, j1, j2, _⟩ := g6 u to hu2.1 hto hu2.2
            exact hno ⟨fun p => h (g p), j1.comp i1, by dsimp only; rw [i2, j2]⟩
          refine ⟨(y, op &&& (clS (y.2.2.1 12) w.1 to ^^^ (-1)), nI (to + 1)), by rw [hst, if_pos hbo, if_neg hbc, y1, ob_s, z1, ob_s, if_pos rfl, classOf_8 hLy.1 hN (by omega), ob_s], rfl, hLy, eR, e14, e13, by rw [e12]; exact g6, by rw [e12]; exact g7, by rw [e12]; exact next (fun _ => Or.inr hno), fun u h1 h2 => ?_, fun u h1 => ?_⟩
          · dsimp only at h2
            rw [tb_dif] at h2
            by_cases q : tb op u = true
            · by_cases r : tb (clS (y.2.2.1 12) w.1 to) u = true
              · exact hcl2 u r
              · rw [q, Bool.eq_false_iff.mpr r] at h2
                exact absurd rfl h2
            · exact g9 u h1 q
          · dsimp only at h1
            rw [tb_dif, Bool.and_eq_true] at h1
            exact g10 u h1.1
        · subst z3
          obtain ⟨π, q1, q2, q3⟩ := z4 rfl
          have hRF := RF.split (p := bit1 b) (q := bit1 to) (l := SA w d) (m := SA w d) rfl k1 (hsub b (by omega) t1) (hsub to (by omega) hkt)
          have hπd : RSP π (SA w d) (SA w d) := RSP.of hK.1 hP2.1 hRF q2
          have hA : AUT w d π := ⟨q1, keep_bs hN hD hd hπd⟩
          have hbt : π b = to := by
            have h3 := q2 k b (by rw [spl_len]; omega) (by rw [wl_spl k1, if_pos rfl, tb_bit1 (by omega)]; exact decide_eq_true rfl)
            rw [wl_spl k1, if_pos rfl, tb_bit1 (by omega)] at h3
            exact of_decide_eq_true h3
          obtain ⟨c', m1, m2, m3, m4⟩ := merge_8 hLy.1 hN (π := π) (fun p hp => ⟨q3 p hp, q1.bj.1 p hp⟩)
          rw [e12] at m2 m4
          have o12 : ∀ e, RW8 y e (SA w e) (SA w e) → RW8 (oA y 12 c') e (SA w e) (SA w e) := fun e ⟨z1, z2, z3, z4⟩ => ⟨by rw [oA_ne (j := 6) _ (by decide)]; exact z1, z2, z3, z4⟩
          have h12 : (oA y 12 c').2.2.1 12 = c' := oA_self _ _ _
          -- those that move within the new classes
          have hπK : ∀ o, o < w.1 → c' o = c' (π o) := m3
          refine ⟨(oA y 12 c', op, nI (to + 1)), by rw [hst, if_pos hbo, if_neg hbc, y1, ob_s, z1, ob_s]; dsimp only; rw [if_neg ne10, m1, ob_s], rfl, hLy.cong rfl (fun _ _ => rfl), fun e he => o12 e (eR e he), fun e he => by dsimp only; rw [oA_ne (j := 14) _ (by decide)]; exact e14 e he, e13, ?_, ?_, ?_, g9, g10⟩
          · dsimp only
            rw [h12]
            intro u v' hu2 hv2 huv
            -- orbits of the ways that move within the new classes
            have hF := m4 (fun i x => ∃ h, AUT w d h ∧ (∀ o, o < w.1 → c' o = c' (h o)) ∧ h i = x) (fun i j hi hj hij => ?_) (fun p hp => ?_) u v' hu2 hv2 huv
            · have h1 : (fun x => ∃ h, AUT w d h ∧ (∀ o, o < w.1 → c' o = c' (h o)) ∧ h v' = x) v' := ⟨_, AUT.id, fun _ _ => rfl, rfl⟩
              rw [← hF] at h1
              obtain ⟨h, j1, j2, j3⟩ := h1
              exact ⟨h, j1, j3, j2⟩
            · funext x
              apply propext
              · obtain ⟨h, j1, j2, j3⟩ := g6 i j hi hj hij
                have hh : ∀ o, o < w.1 → c' o = c' (h o) := fun o ho => m2 o (h o) (by omega) (by have := j1.1.bj.1 o ho; omega) (j3 o ho)
                have hij2 : i < w.1 := hi
                have hi := j1.inv hD (by omega)
                have hhi : ∀ o, o < w.1 → c' o = c' (binv w.1 h o) := fun o ho => by
                  obtain ⟨r1, r2⟩ := binv_ok j1.1.bj ho
                  have := hh _ r1
                  rw [r2] at this
                  exact this.symm
                constructor
                · rintro ⟨f, f1, f2, f3⟩
                  refine ⟨fun p => f (binv w.1 h p), f1.comp hi, fun o ho => ?_, ?_⟩
                  · rw [hhi o ho]; exact f2 _ (hi.1.bj.1 o ho)
                  · dsimp only
                    rw [← j2, binv_l j1.1.bj hij2, f3]
                · rintro ⟨f, f1, f2, f3⟩
                  refine ⟨fun p => f (h p), f1.comp j1, fun o ho => ?_, ?_⟩
                  · rw [hh o ho]; exact f2 _ (j1.1.bj.1 o ho)
                  · dsimp only
                    rw [j2, f3]
            · funext x
              apply propext
              have hi := hA.inv hD (by omega)
              have hhi : ∀ o, o < w.1 → c' o = c' (binv w.1 π o) := fun o ho => by
                obtain ⟨r1, r2⟩ := binv_ok hA.1.bj ho
                have := hπK _ r1
                rw [r2] at this
                exact this.symm
              constructor
              · rintro ⟨f, f1, f2, f3⟩
                refine ⟨fun p => f (binv w.1 π p), f1.comp hi, fun o ho => ?_, ?_⟩
                · rw [hhi o ho]; exact f2 _ (hi.1.bj.1 o ho)
                · dsimp only
                  rw [binv_l hA.1.bj hp, f3]
              · rintro ⟨f, f1, f2, f3⟩
                refine ⟨fun p => f (π p), f1.comp hA, fun o ho => ?_, f3⟩
                rw [hπK o ho]; exact f2 _ (hA.1.bj.1 o ho)
          · dsimp only
            rw [h12]
            intro ρ hρ o ho
            exact m2 o (ρ o) (by omega) (by have := hρ.1.bj.1 o ho; omega) (g7 ρ hρ o ho)
          · dsimp only
            rw [h12]
            intro u h1 h2 h3
            rcases Nat.lt_or_ge u to with q | q
            · rcases g8 u h1 q h3 with r | r
              · exact Or.inl (m2 u b (by omega) (by omega) r)
              · exact Or.inr r
            · have : u = to := by omega
              subst this
              have := hπK b tN
              rw [hbt] at this
              exact Or.inl this.symm
    · exact ⟨(s, op, nI (to + 1)), by rw [hst, if_neg hbo], rfl, g2, g3, g4, g5, g6, g7, next (fun h => Or.inr (g9 to h hbo)), g9, g10⟩
  · obtain ⟨s, op, c⟩ := z
    obtain ⟨g1, g2, g3, g4, g5, g6, g7, g8, g9, g10⟩ := hI
    dsimp only at g1 g2 g3 g4 g5 g6 g7 g8 g9 g10
    subst g1
    refine ⟨s, ?_, g2, g3, g4, g5, g6, g7, fun y h1 h2 => g8 y h1 (hK.1.1 k y k1 h2) h2⟩
    unfold f_X8_widenReach_37
    dsimp only
    rw [g2.1, if_pos (nI_le (Nat.le_refl _) (by omega))]
  · obtain ⟨h, i1, i2, i3⟩ := hcl.1 x y hx hy e
    exact ⟨h, i1.le (by omega), i2, i3⟩
end T8W
