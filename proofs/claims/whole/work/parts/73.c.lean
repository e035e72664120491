/-! questions: turnings, orbit, like -/
section TCT
variable {st stn : OS} {w v : Wd}
theorem canTurn_12 (hO : OW st w v) {stay from_ to : Nat} (h1 : stay ≤ from_) (h2 : from_ < w.1) (h3 : to < w.1) : ∃ c y, f_X12_canTurn st (nI stay) (nI from_) (nI to) = some (c, y) ∧ KG2 st y ∧ (c = 0 ∨ c = 1) ∧ (c = 1 ↔ ∃ π, ISO w v π ∧ (∀ k, k < stay → π k = k) ∧ π from_ = to) := by
  have hN := hO.2.2.2.1
  have hn := hO.1.1
  -- nothing is mapped
  have kA := lpv_inv (f := f_X12_canTurn_3 (nI stay) (nI from_) (nI to)) (fun i z => z.2 = nI i ∧ KG2 st z.1 ∧ ∀ k, k < i → z.1.2.2.1 36 k = -1) 16 (fun x => KG2 st x ∧ ∀ k, k < 16 → x.2.2.1 36 k = -1) (fun i z hi hI => Or.inl ?_) (fun z hI => ?_) 0 (st, 0) (Nat.zero_le _) ⟨rfl, KG2.rf, fun k hk => by omega⟩
  · obtain ⟨s0, a1, a2, a3⟩ := kA
    obtain ⟨s1, hs1⟩ : ∃ s1, s1 = oJ s0 37 0 := ⟨_, rfl⟩
    have hK1 : KG2 st s1 := by rw [hs1]; exact a2.oJ _ _
    have hM1 : PM s1 w (fun q => decide (q < 0)) (fun q => q) := by
      have hz : ∀ q : Nat, decide (q < 0) = true → False := fun q h => absurd (of_decide_eq_true h) (Nat.not_lt_zero q)
      refine ⟨fun p hp => ?_, fun x => ?_, fun p _ h => (hz p h).elim, fun p q _ _ h => (hz p h).elim⟩
      · rw [if_neg (fun z => hz p z), hs1]
        exact a3 p (by omega)
      · rw [hs1, oJ_self, tb_0]
        exact ⟨fun z => absurd z (by decide), fun ⟨p, _, h, _⟩ => (hz p h).elim⟩
    have kB := lpv_inv (f := f_X12_canTurn_35 (nI stay) (nI from_) (nI to)) (fun i z => z.2.2 = nI i ∧ KG2 st z.1 ∧ ((z.2.1 = 1 ∧ PM z.1 w (fun q => decide (q < i)) (fun q => q)) ∨ (z.2.1 = 0 ∧ ¬ ∃ π, ISO w v π ∧ (∀ k, k < stay → π k = k) ∧ π from_ = to))) stay (fun r => KG2 st r.1 ∧ ((r.2 = 1 ∧ PM r.1 w (fun q => decide (q < stay)) (fun q => q)) ∨ (r.2 = 0 ∧ ¬ ∃ π, ISO w v π ∧ (∀ k, k < stay → π k = k) ∧ π from_ = to))) (fun i z hi hI => ?_) (fun z hI => ?_) 0 (s1, 1, 0) (Nat.zero_le _) ⟨rfl, hK1, Or.inl ⟨rfl, hM1⟩⟩
    · obtain ⟨⟨s2, c⟩, b1, b2, b3⟩ := kB
      dsimp only at b2 b3
      unfold f_X12_canTurn
      rw [a1, ob_s]
      dsimp only [bnd]
      rw [← hs1, b1, ob_s]
      dsimp only
      rcases b3 with ⟨b3, b4⟩ | ⟨b3, b4⟩
      · rw [if_neg (by rw [b3]; decide), has_12 (by omega), ob_s]
        have hext : ∀ π, (ISO w v π ∧ (∀ k, k < stay → π k = k) ∧ π from_ = to) ↔ EXT w v (upB (fun q => decide (q < stay)) from_) (upN (fun q => q) from_ to) π := fun π => by
          constructor
          · rintro ⟨x1, x2, x3⟩
            refine ⟨x1, fun p hp hD => ?_⟩
            by_cases c : p = from_
            · rw [c, upN_s]; exact x3
            · rw [upB_n c] at hD
              rw [upN_n c]
              exact x2 p (of_decide_eq_true hD)
          · rintro ⟨x1, x2⟩
            refine ⟨x1, fun k hk => ?_, ?_⟩
            · have := x2 k (by omega) (by rw [upB_n (by omega)]; exact decide_eq_true hk)
              rw [upN_n (by omega)] at this
              exact this
            · have := x2 from_ h2 upB_s
              rw [upN_s] at this
              exact this
        cases hg : tb (s2.2.1 37) to with
        | true =>
          rw [if_neg b2t]
          refine ⟨0, s2, rfl, b2, Or.inl rfl, fun z => absurd z (by decide), fun ⟨π, x1, x2, x3⟩ => ?_⟩
          obtain ⟨p, p1, p2, p3⟩ := (b4.2.1 to).mp hg
          have p4 := of_decide_eq_true p2
          have := x1.bj.2 p from_ p1 h2 (by rw [x2 p p4, x3]; exact p3)
          omega
        | false =>
          rw [if_pos b2f]
          obtain ⟨c1, x, e1, e2, e3, e4, e5⟩ := goes_12 (hO.k b2) b4 h2 (decide_eq_false (by omega)) h3 (fun q q1 q2 q3 => by
            have := (b4.2.1 to).mpr ⟨q, q1, q2, q3⟩
            rw [hg] at this
            cases this)
          rw [e1, ob_s]
          dsimp only
          rcases e4 with e4 | e4
          · rw [if_pos e4]
            refine ⟨0, x, rfl, b2.tr e2, Or.inl rfl, fun z => absurd z (by decide), fun ⟨π, hπ⟩ => ?_⟩
            have := e5 π ((hext π).mp hπ)
            rw [e4] at this
            exact absurd this (by decide)
          · rw [if_neg (by rw [e4]; decide)]
            obtain ⟨c2, y, g1, g2, g3, g4, g5⟩ := canGo_12 40 0 x _ _ (Nat.zero_le _) (by omega) ((hO.k b2).k e2) e3 (fun q hq => by omega)
            rw [show (0 : Int32) = nI 0 from rfl, g1, ob_s]
            dsimp only
            refine ⟨c2, y, ?_, (b2.tr e2).tr g2, g3, g5.trans ⟨fun ⟨π, hπ⟩ => ⟨π, (hext π).mpr hπ⟩, fun ⟨π, hπ⟩ => ⟨π, (hext π).mp hπ⟩⟩⟩
            rw [if_pos]
            rcases g3 with g3 | g3 <;> rw [g3] <;> decide
      · rw [if_pos b3]
        exact ⟨0, s2, rfl, b2, Or.inl rfl, fun z => absurd z (by decide), fun z => absurd z b4⟩
    · obtain ⟨s, c, d⟩ := z
      obtain ⟨g1, g2, g3⟩ := hI
      dsimp only at g1 g2 g3
      subst g1
      rcases g3 with ⟨g3, g4⟩ | ⟨g3, g4⟩
      · left
        subst g3
        obtain ⟨c1, x, e1, e2, e3, e4, e5⟩ := goes_12 (hO.k g2) g4 (p := i) (to := i) (by omega) (decide_eq_false (by omega)) (by omega) (fun q q1 q2 q3 => by
          have := of_decide_eq_true q2
          omega)
        have f1 : upB (fun q => decide (q < i)) i = fun q => decide (q < i + 1) := funext fun q => by
          by_cases c : q = i
          · rw [c, upB_s, decide_eq_true (by omega)]
          · rw [upB_n c]
            by_cases d : q < i
            · rw [decide_eq_true d, decide_eq_true (by omega)]
            · rw [decide_eq_false d, decide_eq_false (by omega)]
        have f2 : upN (fun q => q) i i = fun q => q := funext fun q => by
          by_cases c : q = i
          · rw [c, upN_s]
          · rw [upN_n c]
        rw [f1, f2] at e3 e5
        refine ⟨(x, c1, nI (i + 1)), ?_, rfl, g2.tr e2, ?_⟩
        · unfold f_X12_canTurn_35
          dsimp only
          rw [if_neg (nI_ge hi (by omega)), if_neg ne10, e1, ob_s]
          dsimp only [bnd]
          rw [nI_1]
        · dsimp only
          rcases e4 with e4 | e4
          · refine Or.inr ⟨e4, fun ⟨π, x1, x2, x3⟩ => ?_⟩
            have := e5 π ⟨x1, fun p hp hD => x2 p (by have := of_decide_eq_true hD; omega)⟩
            rw [e4] at this
            exact absurd this (by decide)
          · exact Or.inl ⟨e4, e3⟩
      · right
        subst g3
        refine ⟨(s, 0), ?_, g2, Or.inr ⟨rfl, g4⟩⟩
        unfold f_X12_canTurn_35
        dsimp only
        rw [if_neg (nI_ge hi (by omega)), if_pos rfl]
    · obtain ⟨s, c, d⟩ := z
      obtain ⟨g1, g2, g3⟩ := hI
      dsimp only at g1 g2 g3
      subst g1
      refine ⟨(s, c), ?_, g2, g3⟩
      unfold f_X12_canTurn_35
      dsimp only
      rw [if_pos (nI_le (Nat.le_refl _) (by omega))]
  · obtain ⟨s, b⟩ := z
    obtain ⟨e1, e2, e3⟩ := hI
    dsimp only at e1 e2 e3
    subst e1
    refine ⟨(oA s 36 (upd (s.2.2.1 36) i (-1)), nI (i + 1)), ?_, rfl, e2.oA _, fun k hk => ?_⟩
    · unfold f_X12_canTurn_3
      dsimp only
      rw [if_neg (show ¬ (16 : Int32) ≤ nI i from nI_ge (b := 16) hi (by decide)), if_pos (inb_t hi (by omega)), nI_clamp (by omega)]
      dsimp only [bnd]
      rw [nI_1]
    · dsimp only
      rw [oA_self]
      by_cases c : k = i
      · rw [c]; exact upd_s
      · rw [upd_n c]; exact e3 k (by omega)
  · obtain ⟨s, b⟩ := z
    obtain ⟨e1, e2, e3⟩ := hI
    dsimp only at e1 e2 e3
    subst e1
    refine ⟨s, ?_, e2, e3⟩
    unfold f_X12_canTurn_3
    dsimp only
    rw [if_pos (show (16 : Int32) ≤ nI 16 from nI_le (Nat.le_refl 16) (by decide))]
theorem othersOwn_12 (h : RWo st w.1 w.2) (hN : w.1 ≤ 16) (hW : WFw w) : ∃ x, f_X12_othersOwn st = some x ∧ Kp st x ∧ OW x w w := by
  have hl := h.2.2.2.1
  obtain ⟨s0, hs0⟩ : ∃ s0, s0 = oI st 35 (st.1 1) := ⟨_, rfl⟩
  have k0 : Kp st s0 := by rw [hs0]; exact Keep.rf.oI rfl
  have h0 := h.kp k0
  have key := lpv_inv (f := f_X12_othersOwn_10) (fun i z => z.2 = nI i ∧ (∃ f, z.1 = oB s0 34 f ∧ ∀ k, k < i → f k = wl w.2 k)) w.2.length (fun x => ∃ f, x = oB s0 34 f ∧ ∀ k, k < w.2.length → f k = wl w.2 k) (fun i z hi hI => Or.inl ?_) (fun z hI => ?_) 0 (s0, 0) (Nat.zero_le _) ⟨rfl, s0.2.2.2 34, (oB_id s0 34).symm, fun k hk => by omega⟩
  · obtain ⟨x, e1, f, e2, e3⟩ := key
    have kx : Kp s0 x := by rw [e2]; exact Keep.rf.oB rfl
    refine ⟨x, ?_, Keep.tr k0 kx, h0.kp kx, ?_, fun i hi => ?_, hN, rfl, rfl, hW, hW⟩
    · unfold f_X12_othersOwn
      dsimp only [bnd]
      rw [← hs0, e1, ob_s]
    · rw [e2, oB_1, hs0, oI_self, h.2.1]
    · rw [e2, oB_self]; exact e3 i hi
  · obtain ⟨x, b⟩ := z
    obtain ⟨e1, f, e2, e3⟩ := hI
    dsimp only at e1 e2
    subst e1 e2
    refine ⟨(oB s0 34 (vp_updL f i (wl w.2 i)), nI (i + 1)), ?_, rfl, _, rfl, fun k hk => ?_⟩
    · unfold f_X12_othersOwn_10
      dsimp only
      rw [oB_1, h0.2.1, if_neg (nI_ge hi (by omega)), if_pos (inb_t (by omega) (by omega)), nI_clamp (by omega), oB_self, oB_ne (j := 3) _ (by decide), h0.2.2.2.2 i hi]
      dsimp only [bnd]
      rw [oB_same, nI_1]
    · unfold vp_updL
      by_cases c : k = i
      · rw [if_pos c, c]
      · rw [if_neg c]; exact e3 k (by omega)
  · obtain ⟨x, b⟩ := z
    obtain ⟨e1, f, e2, e3⟩ := hI
    dsimp only at e1 e2
    subst e1 e2
    refine ⟨oB s0 34 f, ?_, f, rfl, e3⟩
    unfold f_X12_othersOwn_10
    dsimp only
    rw [oB_1, h0.2.1, if_pos (nI_le (Nat.le_refl _) (by omega))]
theorem turnings_12 (h : RWo st w.1 w.2) (hN : w.1 ≤ 16) (hW : WFw w) : ∃ x, f_X12_turnings st = some (lN (NA w (fun _ => False)), x) ∧ Kt st x := by
  have h0 := h.th 0
  obtain ⟨s0, a1, a2, a3⟩ := othersOwn_12 h0 hN hW
  have key := lpv_inv (f := f_X12_turnings_26) (fun p z => z.2.2 = nI p ∧ KG2 s0 z.1 ∧ ∃ m, z.2.1 = lN m ∧ m * NA w (fun x => x < p) = NA w (fun _ => False)) w.1 (fun r => KG2 s0 r.1 ∧ r.2 = lN (NA w (fun _ => False))) (fun p z hp hI => Or.inl ?_) (fun z hI => ?_) 0 (s0, 1, 0) (Nat.zero_le _) ⟨rfl, KG2.rf, 1, rfl, by rw [Nat.one_mul]; exact NA_cong (fun x _ => ⟨fun z => absurd z (Nat.not_lt_zero x), fun z => z.elim⟩)⟩
  · obtain ⟨⟨x, r⟩, e1, e2, e3⟩ := key
    dsimp only at e2 e3
    refine ⟨x, ?_, Kt.p (Keep.tr a2 e2.kp)⟩
    unfold f_X12_turnings
    dsimp only [bnd]
    rw [h0.1, if_pos (show nI w.1 ≤ (16 : Int32) from nI_le (b := 16) hN (by decide)), a1, ob_s, e1, ob_s, e3]
  · obtain ⟨s, c, d⟩ := z
    obtain ⟨g1, g2, m, g3, g4⟩ := hI
    dsimp only at g1 g2 g3
    subst g1 g3
    have inner := lpv_inv (f := f_X12_turnings_40 (lN m) (nI p)) (fun to z => p ≤ to ∧ z.2.2 = nI to ∧ KG2 s z.1 ∧ z.2.1 = nI (cnt (fun x => pd (∃ π, FX w (fun x => x < p) π ∧ π p = x)) to)) w.1 (fun r => KG2 s r.1 ∧ r.2 = nI (oc w (fun x => x < p) p)) (fun to z hto hI => ?_) (fun z hI => ?_) p (s, 0, nI p) (by omega) ⟨Nat.le_refl _, rfl, KG2.rf, ?_⟩
    · obtain ⟨⟨x, r⟩, e1, e2, e3⟩ := inner
      dsimp only at e2 e3
      have hoc : oc w (fun x => x < p) p ≤ w.1 := cnt_le _ _
      refine ⟨(x, lN (m * oc w (fun x => x < p) p), nI (p + 1)), ?_, rfl, g2.tr e2, _, rfl, ?_⟩
      · unfold f_X12_turnings_26
        dsimp only
        rw [(a3.k g2).1.1, if_neg (nI_ge hp (by omega)), e1, ob_s]
        dsimp only [bnd]
        rw [e3, nI_64 (by omega), nI_1, lN_mul]
      · rw [← g4, NA_step hN (fun x => x < p) hp, Nat.mul_assoc, NA_cong (F := fun x => x < p ∨ x = p) (G := fun x => x < p + 1) (fun x _ => by omega)]
    · left
      obtain ⟨s', c, d⟩ := z
      obtain ⟨hge, k1, k2, k3⟩ := hI
      dsimp only at k1 k2 k3
      subst k1 k3
      · obtain ⟨c1, y, b1, b2, b3, b4⟩ := canTurn_12 ((a3.k g2).k k2) (Nat.le_refl p) hp hto
        have hiff : pd (∃ π, FX w (fun x => x < p) π ∧ π p = to) = true ↔ c1 = 1 := by
          rw [pd_iff, b4]
          exact ⟨fun ⟨π, x1, x2⟩ => ⟨π, x1.1, fun k hk => x1.2 k (by omega) hk, x2⟩, fun ⟨π, x1, x2, x3⟩ => ⟨π, ⟨x1, fun k _ hk => x2 k hk⟩, x3⟩⟩
        refine ⟨(y, nI (cnt (fun x => pd (∃ π, FX w (fun x => x < p) π ∧ π p = x)) (to + 1)), nI (to + 1)), ?_, by omega, rfl, k2.tr b2, rfl⟩
        unfold f_X12_turnings_40
        dsimp only
        rw [((a3.k g2).k k2).1.1, if_neg (nI_ge hto (by omega)), b1, ob_s]
        dsimp only [bnd]
        rw [nI_1, nI_1, cnt_s]
        rcases b3 with b3 | b3
        · rw [if_pos b3, if_neg (fun z => by rw [hiff, b3] at z; exact absurd z (by decide)), Int32.add_zero]
          rfl
        · rw [if_neg (by rw [b3]; decide), if_pos (hiff.mpr b3)]
    · obtain ⟨s', c, d⟩ := z
      obtain ⟨-, k1, k2, k3⟩ := hI
      dsimp only at k1 k2 k3
      subst k1
      refine ⟨(s', c), ?_, k2, k3⟩
      unfold f_X12_turnings_40
      dsimp only
      rw [((a3.k g2).k k2).1.1, if_pos (nI_le (Nat.le_refl _) (by omega))]
    · rw [cnt_0.mpr (fun i hi => ?_)]
      · rfl
      · refine eq_false_of_ne_true (fun z => ?_)
        obtain ⟨π, x1, x2⟩ := pd_iff.mp z
        have := x1.1.bj.2 i p (by omega) hp (by rw [x1.2 i (by omega) hi, x2])
        omega
  · obtain ⟨s, c, d⟩ := z
    obtain ⟨g1, g2, m, g3, g4⟩ := hI
    dsimp only at g1 g2 g3
    subst g1 g3
    rw [NA_one hN (fun π hπ p hp => hπ.2 p hp hp), Nat.mul_one] at g4
    refine ⟨(s, lN m), ?_, g2, by rw [g4]⟩
    unfold f_X12_turnings_26
    dsimp only
    rw [(a3.k g2).1.1, if_pos (nI_le (Nat.le_refl _) (by omega))]
theorem q_turnings (hW : WFw w) (h : RWo st w.1 w.2) : ∃ k, (∀ stt stn scr, CW stn w → ∃ x, f_X11_turnings stt stn scr = some (k, x)) ∧ ∃ x, f_X12_turnings st = some (k, x) ∧ Kt st x := by
  have hn := h.2.2.1
  by_cases hN : w.1 ≤ 16
  · obtain ⟨x, e1, e2⟩ := turnings_12 h hN hW
    refine ⟨_, fun stt stn scr hw => ?_, x, e1, e2⟩
    obtain ⟨dep, y, f1, _⟩ := count_8 (st := scr) hw hN
    refine ⟨y, ?_⟩
    unfold f_X11_turnings
    rw [hw.1.1, if_pos (show nI w.1 ≤ (16 : Int32) from nI_le (b := 16) hN (by decide)), f1, ob_s]
  · refine ⟨-1, fun stt stn scr hw => ⟨scr, ?_⟩, oI st 2 0, ?_, Kt.thr 0⟩
    · unfold f_X11_turnings
      rw [hw.1.1, if_neg (show ¬ nI w.1 ≤ (16 : Int32) from nI_ge (a := 16) (by omega) (by omega))]
    · unfold f_X12_turnings
      dsimp only [bnd]
      rw [(h.th 0).1, if_neg (show ¬ nI w.1 ≤ (16 : Int32) from nI_ge (a := 16) (by omega) (by omega))]
theorem orbit_12 (h : RWo st w.1 w.2) (hN : w.1 ≤ 16) (hW : WFw w) {p : Nat} (hp : p < w.1) : ∃ s x, f_X12_orbit st (nI p) = some (s, x) ∧ Kp (oI st 2 0) x ∧ ∀ y, tb s y = true ↔ (y < w.1 ∧ ∃ π, ISO w w π ∧ π p = y) := by
  have h0 := h.th 0
  have h1 := in_not h.2.2.1 hp
  obtain ⟨s0, a1, a2, a3⟩ := othersOwn_12 h0 hN hW
  have key := lpv_inv (f := f_X12_orbit_40 (nI p)) (fun to z => z.2.2 = nI to ∧ KG2 s0 z.1 ∧ ∀ y, tb z.2.1 y = true ↔ (y < to ∧ ∃ π, ISO w w π ∧ π p = y)) w.1 (fun r => KG2 s0 r.1 ∧ ∀ y, tb r.2 y = true ↔ (y < w.1 ∧ ∃ π, ISO w w π ∧ π p = y)) (fun to z hto hI => Or.inl ?_) (fun z hI => ?_) 0 (s0, 0, 0) (Nat.zero_le _) ⟨rfl, KG2.rf, fun y => by rw [tb_0]; exact ⟨fun z => absurd z (by decide), fun z => absurd z.1 (Nat.not_lt_zero _)⟩⟩
  · obtain ⟨⟨x, r⟩, e1, e2, e3⟩ := key
    dsimp only at e2 e3
    refine ⟨r, x, ?_, Keep.tr a2 e2.kp, e3⟩
    unfold f_X12_orbit
    dsimp only [bnd]
    rw [isPoint_12 h0, if_neg h1, ob_s, if_neg ne10, h0.1, if_pos (show nI w.1 ≤ (16 : Int32) from nI_le (b := 16) hN (by decide)), a1, ob_s, e1, ob_s]
  · obtain ⟨s, c, d⟩ := z
    obtain ⟨g1, g2, g3⟩ := hI
    dsimp only at g1 g2 g3
    subst g1
    obtain ⟨c1, y, b1, b2, b3, b4⟩ := canTurn_12 (a3.k g2) (Nat.zero_le p) hp hto
    have hst : f_X12_orbit_40 (nI p) (s, c, nI to) = some (.inl (y, if c1 = 0 then c ||| 0 else c ||| bit1 to, nI (to + 1))) := by
      unfold f_X12_orbit_40
      dsimp only
      rw [(a3.k g2).1.1, if_neg (nI_ge hto (by omega)), show (0 : Int32) = nI 0 from rfl, b1, ob_s]
      dsimp only [bnd]
      rw [nI_1]
      by_cases q : c1 = nI 0
      · rw [if_pos q, if_pos q]
      · rw [if_neg q, if_neg q, bit_12 (by omega), ob_s]
    have hiff : (∃ π, ISO w w π ∧ π p = to) ↔ c1 = 1 := by
      rw [b4]
      exact ⟨fun ⟨π, x1, x2⟩ => ⟨π, x1, fun k hk => by omega, x2⟩, fun ⟨π, x1, _, x2⟩ => ⟨π, x1, x2⟩⟩
    refine ⟨_, hst, rfl, g2.tr b2, fun u => ?_⟩
    dsimp only
    rcases b3 with b3 | b3
    · rw [if_pos b3, or0, g3 u]
      constructor
      · rintro ⟨x1, x2⟩; exact ⟨by omega, x2⟩
      · rintro ⟨x1, x2⟩
        refine ⟨?_, x2⟩
        rcases Nat.lt_or_ge u to with q | q
        · exact q
        · have : u = to := by omega
          subst this
          have := hiff.mp x2
          rw [b3] at this
          exact absurd this (by decide)
    · rw [if_neg (by rw [b3]; decide), tb_or, Bool.or_eq_true, g3 u, tb_bit1 (by omega), decide_eq_true_iff]
      constructor
      · rintro (⟨x1, x2⟩ | x)
        · exact ⟨by omega, x2⟩
        · subst x; exact ⟨by omega, hiff.mpr b3⟩
      · rintro ⟨x1, x2⟩
        rcases Nat.lt_or_ge u to with q | q
        · exact Or.inl ⟨q, x2⟩
        · exact Or.inr (by omega)
  · obtain ⟨s, c, d⟩ := z
    obtain ⟨g1, g2, g3⟩ := hI
    dsimp only at g1 g2 g3
    subst g1
    refine ⟨(s, c), ?_, g2, g3⟩
    unfold f_X12_orbit_40
    dsimp only
    rw [(a3.k g2).1.1, if_pos (nI_le (Nat.le_refl _) (by omega))]
theorem q_orbit (hW : WFw w) (h : RWo st w.1 w.2) (a0 : Int32) : ∃ k : Nat ⊕ Int64, (∀ stt stn scr, CW stn w → ∃ x, f_X11_orbit stt stn scr a0 = some (match k with | .inl j => .inl j | .inr v => .inr (v, x))) ∧ ∃ v x, f_X12_orbit st a0 = some (v, x) ∧ Kt st x ∧ QA 0 k v x := by
  have h0 := h.th 0
  have hn := h.2.2.1
  rcases out_or (i := a0) (n := w.1) with h1 | ⟨p, rfl, hp⟩
  · refine ⟨.inl 0, fun stt stn scr hw => ⟨scr, ?_⟩, 0, oI (oI st 2 0) 2 1, ?_, Kt.ff, Or.inl ⟨rfl, th_v⟩⟩
    · unfold f_X11_orbit
      rw [needPoint_11 stt hw.1, if_pos h1]
      rfl
    · unfold f_X12_orbit
      dsimp only [bnd]
      rw [isPoint_12 h0, if_pos h1, ob_s, if_pos rfl]
      rfl
  · have h1 := in_not h.2.2.1 hp
    by_cases hN : w.1 ≤ 16
    · obtain ⟨s, x, e1, e2, e3⟩ := orbit_12 h hN hW hp
      refine ⟨.inr s, fun stt stn scr hw => ?_, s, x, e1, Kt.p e2, Or.inr ⟨rfl, e2.v⟩⟩
      obtain ⟨dep, y, f1, f2, f3⟩ := count_8 (st := scr) hw hN
      obtain ⟨s', g1, g2⟩ := orb_8 hN f3 hp
      have hs : s' = s := tb_ext (fun i _ => Bool.eq_iff_iff.mpr ((g2 i).trans (e3 i).symm))
      refine ⟨y, ?_⟩
      unfold f_X11_orbit
      rw [needPoint_11 stt hw.1, if_neg h1, ob_s]
      dsimp only
      rw [hw.1.1, if_pos (show nI w.1 ≤ (16 : Int32) from nI_le (b := 16) hN (by decide)), f1, ob_s]
      dsimp only
      rw [g1, ob_s, hs]
    · refine ⟨.inr 0, fun stt stn scr hw => ⟨scr, ?_⟩, 0, oI st 2 0, ?_, Kt.thr 0, Or.inr ⟨rfl, th_v⟩⟩
      · unfold f_X11_orbit
        rw [needPoint_11 stt hw.1, if_neg h1, ob_s]
        dsimp only
        rw [hw.1.1, if_neg (show ¬ nI w.1 ≤ (16 : Int32) from nI_ge (a := 16) (by omega) (by omega))]
      · unfold f_X12_orbit
        dsimp only [bnd]
        rw [isPoint_12 h0, if_neg h1, ob_s, if_neg ne10, h0.1, if_neg (show ¬ nI w.1 ≤ (16 : Int32) from nI_ge (a := 16) (by omega) (by omega))]
end TCT
