/-! turnings: the search for a way -/
/-- the first world's kinds, row by row: each told apart as the class does -/
def tlA (s : List Int64) : List Int64 := match und s with
  | none => s
  | some k => spl s k (bit1 (low (wl s k)))
def RA (w : Wd) : Nat → List Int64
  | 0 => one1 w.1
  | d + 1 => tlA (stl w 17 (RA w d))
def SA (w : Wd) (d : Nat) : List Int64 := stl w 17 (RA w d)
def bsA (w : Wd) (d : Nat) : Nat := match und (SA w d) with
  | none => 0
  | some k => low (wl (SA w d) k)
theorem bsA_eq {w : Wd} {d k : Nat} (h : und (SA w d) = some k) : bsA w d = low (wl (SA w d) k) := by
  unfold bsA
  rw [h]
theorem RA_eq {w : Wd} {d k : Nat} (h : und (SA w d) = some k) : RA w (d + 1) = spl (SA w d) k (bit1 (bsA w d)) := by
  rw [bsA_eq h]
  show tlA (SA w d) = _
  unfold tlA
  rw [h]
/-- rows before R and goals before G stay -/
def TK8 (R G : Nat) (st x : OS) : Prop := x.1 = st.1 ∧ (∀ k, k ≠ 6 → k ≠ 11 → k ≠ 14 → x.2.2.1 k = st.2.2.1 k) ∧ (∀ k, k ≠ 7 → k ≠ 8 → k ≠ 9 → k ≠ 10 → x.2.2.2 k = st.2.2.2 k) ∧ (∀ d, d < R → x.2.2.1 6 d = st.2.2.1 6 d) ∧ (∀ d, d < G → x.2.2.1 14 d = st.2.2.1 14 d) ∧ ∀ z, z < 64 * R → x.2.2.2 7 z = st.2.2.2 7 z ∧ x.2.2.2 8 z = st.2.2.2 8 z
theorem oN_none : oN none = -1 := rfl
theorem oN_some (k : Nat) : oN (some k) = nI k := rfl
section T8C
variable {st x y : OS} {D R G : Nat} {l m : List Int64} {w v : Wd}
theorem TK8.rf : TK8 R G st st := ⟨rfl, fun _ _ _ _ => rfl, fun _ _ _ _ _ => rfl, fun _ _ => rfl, fun _ _ => rfl, fun _ _ => ⟨rfl, rfl⟩⟩
theorem TK8.tr (h : TK8 R G st x) (g : TK8 R G x y) : TK8 R G st y := ⟨g.1.trans h.1, fun k a b c => (g.2.1 k a b c).trans (h.2.1 k a b c), fun k a b c d => (g.2.2.1 k a b c d).trans (h.2.2.1 k a b c d), fun d hd => (g.2.2.2.1 d hd).trans (h.2.2.2.1 d hd), fun d hd => (g.2.2.2.2.1 d hd).trans (h.2.2.2.2.1 d hd), fun z hz => ⟨(g.2.2.2.2.2 z hz).1.trans (h.2.2.2.2.2 z hz).1, (g.2.2.2.2.2 z hz).2.trans (h.2.2.2.2.2 z hz).2⟩⟩
theorem TK8.le (h : TK8 R G st x) {R' G' : Nat} (hR : R' ≤ R) (hG : G' ≤ G) : TK8 R' G' st x := ⟨h.1, h.2.1, h.2.2.1, fun d hd => h.2.2.2.1 d (by omega), fun d hd => h.2.2.2.2.1 d (by omega), fun z hz => h.2.2.2.2.2 z (by omega)⟩
theorem TK8.row (h : TK8 R G st x) {E : Nat} (hE : E < R) (hl : l.length ≤ 64) (g : RW8 st E l m) : RW8 x E l m := by
  obtain ⟨g1, g2, g3, g4⟩ := g
  refine ⟨(h.2.2.2.1 E hE).trans g1, g2, fun k hk => ?_, fun k hk => ?_⟩
  · rw [(h.2.2.2.2.2 (64 * E + k) (by omega)).1]; exact g3 k hk
  · rw [(h.2.2.2.2.2 (64 * E + k) (by omega)).2]; exact g4 k hk
theorem LD8.t (h : LD8 st w v) (k : TK8 R G st x) : LD8 x w v := h.cong k.1 (fun j hj => k.2.2.1 j (by omega) (by omega) (by omega) (by omega))
theorem SR8.t (h : SR8 D st x) (hD : D ≤ 16) : TK8 D G st x := ⟨h.1, fun k a _ _ => h.2.1 k a, h.2.2.1, fun d hd => h.2.2.2.1 d (by omega) (by omega), fun d _ => by rw [h.2.1 14 (by decide)], fun z hz => h.2.2.2.2 z (Or.inl hz) (by omega)⟩
theorem TA8.t {t : Nat} (h : TA8 D t st x) : TK8 (D + 1) D st x := ⟨h.1, fun k a _ b => h.2.1 k a b, fun k a b _ _ => h.2.2.1 k a b, fun d hd => h.2.2.2.1 d (by omega), fun d hd => h.2.2.2.2.1 d (by omega), fun z hz => h.2.2.2.2.2.2 z (Or.inl hz)⟩
theorem tk_11 (f : Nat → Int32) : TK8 R G st (oA st 11 f) := ⟨rfl, fun k _ h _ => by rw [oA_ne _ h], fun _ _ _ _ _ => rfl, fun d _ => by rw [oA_ne (j := 6) _ (by decide)], fun d _ => by rw [oA_ne (j := 14) _ (by decide)], fun _ _ => ⟨rfl, rfl⟩⟩
/-- the reaches hold what they are of, and stay in its kind -/
def HR8 (st : OS) (w : Wd) : Prop := ∀ d k, d < 16 → und (SA w d) = some k → tb (st.2.2.2 13 d) (bsA w d) = true ∧ ∀ x, tb (st.2.2.2 13 d) x = true → tb (wl (SA w d) k) x = true
theorem HR8.t (h : HR8 st w) (k : TK8 R G st x) : HR8 x w := fun d j hd hu => by
  rw [k.2.2.1 13 (by decide) (by decide) (by decide) (by decide)]
  exact h d j hd hu
/-- a way that carries each one told apart below the others of its reach -/
def MN8 (st : OS) (w : Wd) (D : Nat) (π : Nat → Nat) : Prop := (∀ e, e < D → st.2.2.1 14 e = nI (π (bsA w e))) ∧ ∀ d k x, d < 16 → und (SA w d) = some k → tb (st.2.2.2 13 d) x = true → π (bsA w d) ≤ π x
theorem MN8.t {π : Nat → Nat} (h : MN8 st w D π) (k : TK8 R D st x) : MN8 x w D π := ⟨fun e he => (k.2.2.2.2.1 e he).trans (h.1 e he), fun d j y hd hu hy => by
  rw [k.2.2.1 13 (by decide) (by decide) (by decide) (by decide)] at hy
  exact h.2 d j y hd hu hy⟩
/-- how many lie above -/
theorem mn_above {π : Nat → Nat} (hN : w.1 ≤ 16) (hb : BJ w.1 π) {rc K M : Int64} {p : Nat} (h1 : tb rc p = true) (h2 : ∀ x, tb rc x = true → tb K x = true) (h3 : ∀ x, tb K x = true → x < w.1) (h4 : ∀ x, tb K x = true → tb M (π x) = true) (h5 : ∀ x, tb rc x = true → π p ≤ π x) (h6 : ∀ x, tb M x = true → x < w.1) : pcn rc ≤ pcn (M &&& (fst64 (π p + 1) ^^^ (-1))) + 1 := by
  have hp := h3 p (h2 p h1)
  have hpi := hb.1 p hp
  rw [pcn_N (x := rc) (N := w.1) (by omega) (fun x z => h3 x (h2 x z)), ← cnt_del h1 hp, pcn_N (x := M &&& (fst64 (π p + 1) ^^^ (-1))) (N := w.1) (by omega) (fun x z => h6 x (by rw [tb_and, Bool.and_eq_true] at z; exact z.1))]
  have := cnt_rel (p := fun i => tb rc i && decide (i ≠ p)) (m := w.1) (R := fun i j => j = π i) w.1 (tb (M &&& (fst64 (π p + 1) ^^^ (-1)))) (fun i hi hz => ?_) (fun i k j hi hk _ _ a b => hb.2 i k hi hk (a.symm.trans b))
  · omega
  · rw [Bool.and_eq_true] at hz
    refine ⟨π i, hb.1 i hi, ?_, rfl⟩
    have a1 := h5 i hz.1
    have a2 : π i ≠ π p := fun e => of_decide_eq_true hz.2 (hb.2 i p hi hp e)
    rw [tb_dif, h4 i (h2 i hz.1), tb_fst64 (by omega), decide_eq_false (by omega)]
    rfl
theorem carryOn_8 : ∀ (f D : Nat) (st : OS) (l m : List Int64), D < 16 → 16 ≤ f + D → LD8 st w v → RW8 st D l m → KP w.1 l m → l = RA w D → (D < l.length ∨ w.1 = 0) → HR8 st w → (∀ e, e < D → und (SA w e) ≠ none) →
    ∃ c x, f_X8_carryOn f st (nI D) = some (c, x) ∧ TK8 D D st x ∧ (c = 0 ∨ c = 1) ∧ (c = 1 → ∃ π, ISO w v π ∧ RSP π l m ∧ ∀ p, p < w.1 → x.2.2.1 11 p = nI (π p)) ∧ ((∃ π, ISO w v π ∧ RSP π l m ∧ MN8 st w D π) → c = 1) := by
  intro f
  induction f with
  | zero => intro D st l m hD hf; omega
  | succ f ih =>
    intro D st l m hD hf hL hRow hK hlA hDl hHR hU
    have hN := hL.2.2.1
    have h64 := hL.2.2.2.1
    obtain ⟨c1, t, a1, a2, a3, a4, a5⟩ := settle_8 hL hD hRow hK
    have hT : f_X8_carryOn (f + 1) st (nI D) = f_X8_carryOn_T (f_X8_carryOn f) st (nI D) := rfl
    rw [hT]
    unfold f_X8_carryOn_T
    rw [if_neg (nI_pos (by omega)), if_neg (show ¬ (16 : Int32) ≤ nI D from nI_ge (b := 16) hD (by decide)), a1, ob_s]
    dsimp only
    rcases a3 with a3 | a3
    · subst a3
      rw [if_pos rfl]
      refine ⟨0, t, rfl, a2.t (by omega), Or.inl rfl, fun z => absurd z (by decide), fun ⟨π, ⟨σ, b1⟩, b2, _⟩ => ?_⟩
      exact a5 ⟨π, σ, b1, b2⟩
    · subst a3
      obtain ⟨l', m', b1, b2, b3, b4, b5, b6⟩ := a4 rfl
      have hlen := b2.len
      have hlm := b2.2.2.1
      have hSA : l' = SA w D := by rw [b4, hlA]; rfl
      have htk : TK8 D D st t := a2.t (by omega)
      rw [if_neg (by decide), und_8 (by omega) b1 (by omega), ob_s]
      cases hu : und l' with
      | none =>
        obtain ⟨g, g1, g2⟩ := carry_8 (by omega) b1 hN b2
        obtain ⟨σ, i1, i2⟩ := iso_of hN h64 b2 hu b5
        rw [oN_none, if_pos rfl, g1, ob_s]
        refine ⟨1, oA t 11 g, rfl, htk.tr (tk_11 g), Or.inr rfl, fun _ => ⟨piK l' m', ⟨σ, i1⟩, RSP.of hK.1 b2.1 b3 i2, fun p hp => ?_⟩, fun _ => rfl⟩
        obtain ⟨k1, k2⟩ := kf_ok b2.1 hp
        have := one_el (und_none b2 hN hu k1) (low_tb (b2.2.2.2.1 _ k1)).1 k2
        rw [oA_self]
        unfold piK
        rw [← g2 _ k1, this]
      | some k =>
        obtain ⟨k1, k2⟩ := und_some hu
        have hkm : k < m'.length := by omega
        have hne := b2.2.2.2.1 k k1
        obtain ⟨t1, t2, t3⟩ := low_tb hne
        have hpN := b2.1.1 k _ k1 t1
        have huA : und (SA w D) = some k := by rw [← hSA]; exact hu
        have hbs : bsA w D = low (wl l' k) := by rw [bsA_eq huA, ← hSA]
        have hRA : RA w (D + 1) = spl l' k (bit1 (low (wl l' k))) := by rw [RA_eq huA, hbs, ← hSA]
        have hge : l.length ≤ l'.length := by
          have : l.length ≤ l'.length := by
            rcases Nat.lt_or_ge l'.length l.length with q | q
            · exfalso
              -- finer kinds are no fewer
              have hin : l.length ≤ l'.length := fb_holes _ _ (fun k => kf l' (low (wl l k))) (fun i hi => (kf_ok b2.1 (hK.1.1 i _ hi (low_tb (hK.2.2.2.1 i hi)).1)).1) (fun i j hij hj e => by
                have hi : i < l.length := by omega
                have x1 := (low_tb (hK.2.2.2.1 i hi)).1
                have x2 := (low_tb (hK.2.2.2.1 j hj)).1
                obtain ⟨y1, y2⟩ := kf_ok b2.1 (hK.1.1 i _ hi x1)
                obtain ⟨z1, z2⟩ := kf_ok b2.1 (hK.1.1 j _ hj x2)
                have e' : kf l' (low (wl l i)) = kf l' (low (wl l j)) := e
                rw [← e'] at z2
                obtain ⟨o, o1, o2, _⟩ := b3 _ y1
                have p1 := hK.1.2.2 _ _ _ o1 hi (o2 _ y2) x1
                have p2 := hK.1.2.2 _ _ _ o1 hj (o2 _ z2) x2
                omega)
              omega
            · exact q
          exact this
        have hw0 : ¬ w.1 = 0 := by omega
        have hD2 : D < l'.length := by omega
        rw [oN_some, if_neg (nI_m1 (n := k) (by omega)), ix64, if_pos (inb_t (by omega) (by omega)), nI_clamp (by omega), b1.2.2.1 k k1, lowest_10, ob_s, if_neg hne, b1.2.2.2 k hkm]
        dsimp only [bnd]
        obtain ⟨p, hp⟩ : ∃ p, p = low (wl l' k) := ⟨_, rfl⟩
        rw [← hp] at t1 hpN hbs hRA ⊢
        have hsub : ∀ i, tb (bit1 p) i = true → tb (wl l' k) i = true := fun i z => by
          rw [tb_bit1 (by omega)] at z
          rw [of_decide_eq_true z]; exact t1
        have hwp : bit1 p ≠ wl l' k := fun z => by rw [← z, pcn_bit1 (by omega)] at k2; omega
        have key := lpv_inv (f := f_X8_carryOn_69 (f_X8_carryOn f) (nI D) (nI k) (nI p) (wl m' k)) (fun to z => z.2 = nI to ∧ TK8 (D + 1) D t z.1 ∧ ∀ π, ISO w v π → RSP π l m → MN8 st w D π → to ≤ π p) w.1 (fun r => TK8 (D + 1) D t r.2 ∧ ((r.1 = 0 ∧ ∃ π, ISO w v π ∧ RSP π l' m' ∧ ∀ q, q < w.1 → r.2.2.2.1 11 q = nI (π q)) ∨ (r.1 = 1 ∧ ¬ ∃ π, ISO w v π ∧ RSP π l m ∧ MN8 st w D π))) (fun to z hto hI => ?_) (fun z hI => ?_) 0 (t, 0) (Nat.zero_le _) ⟨rfl, TK8.rf, fun _ _ _ _ => Nat.zero_le _⟩
        · obtain ⟨⟨r, x⟩, e1, e2, e3⟩ := key
          dsimp only at e2 e3
          rw [e1, ob_s]
          dsimp only
          rcases e3 with ⟨f1, π, f2, f3, f4⟩ | ⟨f1, f2⟩
          · rw [if_pos f1]
            exact ⟨1, x, rfl, htk.tr (e2.le (by omega) (Nat.le_refl _)), Or.inr rfl, fun _ => ⟨π, f2, RSP.of hK.1 b2.1 b3 f3, f4⟩, fun _ => rfl⟩
          · rw [if_neg (by omega)]
            exact ⟨0, x, rfl, htk.tr (e2.le (by omega) (Nat.le_refl _)), Or.inl rfl, fun z => absurd z (by decide), fun z => absurd z f2⟩
        · obtain ⟨s, b⟩ := z
          obtain ⟨g1, g2, g3⟩ := hI
          dsimp only at g1 g2
          subst g1
          have hLs := (hL.t htk).t g2
          have next : (∀ π, ISO w v π → RSP π l m → MN8 st w D π → ¬ π p = to) → ∀ π, ISO w v π → RSP π l m → MN8 st w D π → to + 1 ≤ π p := fun hno π h1 h2 h3 => by
            have := g3 π h1 h2 h3
            have := hno π h1 h2 h3
            omega
          have hst : f_X8_carryOn_69 (f_X8_carryOn f) (nI D) (nI k) (nI p) (wl m' k) (s, nI to) = if tb (wl m' k) to = true then (f_X8_isWorthTrying s (nI D) (nI p) (nI to) (wl m' k)).bind (fun x26 => if x26 = 0 then some (.inl (s, nI (to + 1))) else (f_X8_tellApart s (nI D) (nI k) (nI p) (nI to)).bind (fun x32 => (f_X8_carryOn f x32 (nI (D + 1))).bind (fun x35 => if x35.1 = 0 then some (.inl (x35.2, nI (to + 1))) else some (.inr (0, x35.2))))) else some (.inl (s, nI (to + 1))) := by
            unfold f_X8_carryOn_69
            dsimp only
            rw [hLs.1, if_neg (nI_ge hto (by omega)), if_neg (show ¬ (16 : Int32) ≤ nI to from nI_ge (b := 16) (by omega) (by decide)), has_10 (by omega), ob_s]
            dsimp only [bnd]
            rw [nI_1, nI_1]
            cases hb : tb (wl m' k) to with
            | true => rw [if_neg b2t, if_pos rfl]
            | false => rw [if_pos b2f, if_neg (by decide)]
          by_cases hb : tb (wl m' k) to = true
          · obtain ⟨v1, w1, w2, w3⟩ := worth_8 (st := s) hD (p := p) (by omega) (t := to) (by omega) (wl m' k)
            have hgood : ∀ π, ISO w v π → RSP π l m → MN8 st w D π → π p = to → v1 = 1 := fun π i1 i2 i3 i4 => by
              obtain ⟨σ, i1'⟩ := i1
              have i5 := b6 π σ i1' i2
              have i6 := (i3.t htk).t g2
              have hhr := ((hHR.t htk).t g2) D k hD huA
              rw [hbs, ← hSA] at hhr
              refine w3 ?_ (fun e he hp' => ?_)
              · have := mn_above hN i1'.1 (rc := s.2.2.2 13 D) (K := wl l' k) (M := wl m' k) (p := p) hhr.1 hhr.2 (fun x z => b2.1.1 k x k1 z) (fun x z => i5 k x k1 z) (fun x z => by
                  have := i6.2 D k x hD huA z
                  rw [hbs] at this
                  exact this) (fun x z => b2.2.1.1 k x hkm z)
                rw [i4] at this
                exact this
              · obtain ⟨k', hk'⟩ : ∃ k', und (SA w e) = some k' := by
                  cases hq : und (SA w e) with
                  | none => exact absurd hq (hU e he)
                  | some k' => exact ⟨k', rfl⟩
                rw [i6.1 e he]
                have := i6.2 e k' p (by omega) hk' hp'
                rw [i4] at this
                exact nI_le this (by omega)
            rcases w2 with w2 | w2
            · left
              subst w2
              refine ⟨(s, nI (to + 1)), by rw [hst, if_pos hb, w1, ob_s, if_pos rfl], rfl, g2, next (fun π h1 h2 h3 h4 => ?_)⟩
              exact absurd (hgood π h1 h2 h3 h4) (by decide)
            · subst w2
              have hsubm : ∀ i, tb (bit1 to) i = true → tb (wl m' k) i = true := fun i z => by
                rw [tb_bit1 (by omega)] at z
                rw [of_decide_eq_true z]; exact hb
              have hP2 := b2.split k1 hsub hsubm (bit1_ne (by omega)) hwp (by rw [pcn_bit1 (by omega), pcn_bit1 (by omega)])
              have hl2 := hP2.len
              rw [spl_len] at hl2
              have hrow := g2.row (show D < D + 1 by omega) (by omega) b1
              obtain ⟨x, y1, y2, y3⟩ := tellApart_8 (N := w.1) (by omega) hrow (by omega) b2 k1 k2 (p := p) (by omega) (t := to) (by omega) (by omega)
              have hLx := hLs.t y3.t
              obtain ⟨c2, y, z1, z2, z3, z4, z5⟩ := ih (D + 1) x _ _ (by omega) (by omega) hLx y2 hP2 hRA.symm (Or.inl (by rw [spl_len]; omega)) (((hHR.t htk).t g2).t y3.t) (fun e he => by
                rcases Nat.lt_or_ge e D with q | q
                · exact hU e q
                · rw [show e = D by omega, huA]
                  exact fun z => by cases z)
              have hRF := RF.split (p := bit1 p) (q := bit1 to) hlm k1 hsub hsubm
              have hkeep : TK8 (D + 1) D t y := (g2.tr y3.t).tr (z2.le (Nat.le_refl _) (by omega))
              rcases z3 with z3 | z3
              · left
                subst z3
                refine ⟨(y, nI (to + 1)), by rw [hst, if_pos hb, w1, ob_s, if_neg (by decide), y1, ob_s, z1, ob_s]; rfl, rfl, hkeep, next (fun π h1 h2 h3 h4 => ?_)⟩
                obtain ⟨σ, h1'⟩ := h1
                have h5 := b6 π σ h1' h2
                have h6 : RSP π (spl l' k (bit1 p)) (spl m' k (bit1 to)) := h5.split hsub hlm k1 (fun i hi => by
                  rw [tb_bit1 (by omega), tb_bit1 (by omega)]
                  have hiN := b2.1.1 k i k1 hi
                  by_cases q : i = p
                  · rw [decide_eq_true q, q, h4, decide_eq_true rfl]
                  · rw [decide_eq_false q, decide_eq_false (fun z => q (h1'.1.2 i p hiN hpN (by rw [z, h4])))])
                have h7 := ((h3.t htk).t g2).t y3.t
                have h8 : MN8 x w (D + 1) π := ⟨fun e he => by
                  rcases Nat.lt_or_ge e D with q | q
                  · exact h7.1 e q
                  · rw [show e = D by omega, hbs, h4]
                    exact y3.2.2.2.2.2.1, h7.2⟩
                exact absurd (z5 ⟨π, ⟨σ, h1'⟩, h6, h8⟩) (by decide)
              · right
                subst z3
                obtain ⟨π, q1, q2, q3⟩ := z4 rfl
                refine ⟨(0, y), by rw [hst, if_pos hb, w1, ob_s, if_neg (by decide), y1, ob_s, z1, ob_s]; rfl, hkeep, Or.inl ⟨rfl, π, q1, RSP.of b2.1 hP2.1 hRF q2, q3⟩⟩
          · left
            refine ⟨(s, nI (to + 1)), by rw [hst, if_neg hb], rfl, g2, next (fun π h1 h2 h3 h4 => ?_)⟩
            obtain ⟨σ, h1'⟩ := h1
            have := b6 π σ h1' h2 k p k1 t1
            rw [h4] at this
            exact hb this
        · obtain ⟨s, b⟩ := z
          obtain ⟨g1, g2, g3⟩ := hI
          dsimp only at g1 g2
          subst g1
          have hLs := (hL.t htk).t g2
          refine ⟨(1, s), ?_, g2, Or.inr ⟨rfl, fun ⟨π, h1, h2, h3⟩ => ?_⟩⟩
          · unfold f_X8_carryOn_69
            dsimp only
            rw [hLs.1, if_pos (nI_le (Nat.le_refl _) (by omega))]
          · have := g3 π h1 h2 h3
            have := h1.bj.1 p hpN
            omega
end T8C
