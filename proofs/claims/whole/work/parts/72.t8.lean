/-! turnings: worlds loaded; points told apart till all are -/
theorem pbm_one {mk : Nat → Int64} {l : List Int64} (h : ∀ k, k < l.length → pcn (wl l k) = 1) : ∀ f k, pbm mk f k l = l := by
  intro f
  induction f with
  | zero => intro k; rfl
  | succ f ih =>
    intro k
    show (if k < l.length then _ else l) = l
    by_cases c : k < l.length
    · rw [if_pos c]
      have h1 := h k c
      have hne : wl l k ≠ 0 := fun z => by rw [z, pcn_zero] at h1; omega
      have e : sel (wl l k) (fun i => decide (mk i = mk (low (wl l k)))) = wl l k := tb_ext (fun i _ => by
        rw [tb_sel]
        cases hb : tb (wl l k) i with
        | false => rfl
        | true =>
          rw [one_el h1 (low_tb hne).1 hb]
          rw [decide_eq_true rfl]
          rfl)
      rw [if_pos e]
      exact ih (k + 1)
    · rw [if_neg c]
theorem stl_one {w : Wd} {l : List Int64} (h : ∀ k, k < l.length → pcn (wl l k) = 1) : ∀ f, stl w f l = l := by
  have h1 : stl1 w l = l := pbm_one h 64 0
  intro f
  induction f with
  | zero => rfl
  | succ f ih =>
    show (if (stl1 w l).length = l.length then stl1 w l else stl w f (stl1 w l)) = l
    rw [h1, if_pos rfl]
theorem und_one {l : List Int64} (h : ∀ k, k < l.length → pcn (wl l k) = 1) : und l = none := by
  cases hu : und l with
  | none => rfl
  | some k =>
    obtain ⟨h1, h2⟩ := und_some hu
    have := h k h1
    omega
/-- from the first row on that is all of ones -/
theorem SA_end {w : Wd} {D : Nat} (h : ∀ k, k < (SA w D).length → pcn (wl (SA w D) k) = 1) : ∀ j, SA w (D + j) = SA w D := by
  intro j
  induction j with
  | zero => rfl
  | succ j ih =>
    have h1 : RA w (D + j + 1) = SA w D := by
      show tlA (SA w (D + j)) = _
      rw [ih]
      unfold tlA
      rw [und_one h]
    show stl w 17 (RA w (D + j + 1)) = _
    rw [h1]
    exact stl_one h 17
/-- what is known of a row of the first world -/
def AF8 (w : Wd) (d : Nat) : Prop := KP w.1 (RA w d) (RA w d) ∧ KP w.1 (SA w d) (SA w d) ∧ (∀ π, ISO w w π → RSP π (RA w d) (RA w d) → RSP π (SA w d) (SA w d)) ∧ RF (RA w d) (RA w d) (SA w d) (SA w d)
/-- told apart till all are: so many rows -/
def DEP (w : Wd) (dep : Nat) : Prop := dep ≤ 15 ∧ (∀ d, d < dep → AF8 w d ∧ ∃ k, und (SA w d) = some k) ∧ (∀ d, dep ≤ d → und (SA w d) = none) ∧ KP w.1 (RA w dep) (RA w dep) ∧ ∀ π, ISO w w π → RSP π (RA w dep) (RA w dep) → ∀ p, p < w.1 → π p = p
theorem RSP.one {N : Nat} {l : List Int64} {f : Nat → Nat} (h : KG N l) (h1 : ∀ k, k < l.length → pcn (wl l k) = 1) (hR : RSP f l l) {p : Nat} (hp : p < N) : f p = p := by
  obtain ⟨k, hk, hb⟩ := h.2.1 p hp
  exact (one_el (h1 k hk) hb (hR k p hk hb)).symm
section T8L
variable {st stn sto : OS} {w v : Wd}
theorem load_8 (h1 : CW stn w) (h2 : CW sto v) (hN : w.1 ≤ 16) (hv : v.1 = w.1) (hl : v.2.length = w.2.length) : ∃ x, f_X8_load st stn sto = some x ∧ LD8 x w v ∧ RW8 x 0 (one1 w.1) (one1 w.1) ∧ (∀ k, k ≠ 6 → x.2.2.1 k = st.2.2.1 k) ∧ x.2.2.2 13 = st.2.2.2 13 := by
  have h64 := h1.1.2.2.2.1
  obtain ⟨s0, hs0⟩ : ∃ s0, s0 = oI (oI st 0 (nI w.1)) 1 (nI w.2.length) := ⟨_, rfl⟩
  have a1 := lpv_inv (f := f_X8_load_23 stn sto) (fun i z => z.2 = nI i ∧ z.1.1 = s0.1 ∧ z.1.2.2.1 = s0.2.2.1 ∧ (∀ k, k ≠ 2 → k ≠ 3 → z.1.2.2.2 k = s0.2.2.2 k) ∧ ∀ j, j < i → z.1.2.2.2 2 j = wl w.2 j ∧ z.1.2.2.2 3 j = wl v.2 j) 64 (fun x => x.1 = s0.1 ∧ x.2.2.1 = s0.2.2.1 ∧ (∀ k, k ≠ 2 → k ≠ 3 → x.2.2.2 k = s0.2.2.2 k) ∧ ∀ j, j < 64 → x.2.2.2 2 j = wl w.2 j ∧ x.2.2.2 3 j = wl v.2 j) (fun i z hi hI => Or.inl ?_) (fun z hI => ?_) 0 (s0, 0) (Nat.zero_le _) ⟨rfl, rfl, rfl, fun _ _ _ => rfl, fun j hj => by omega⟩
  · obtain ⟨x, b1, b2, b3, b4, b5⟩ := a1
    have a2 := lpv_inv (f := f_X8_load_59 stn sto) (fun i z => z.2 = nI i ∧ z.1.1 = s0.1 ∧ z.1.2.2.1 = s0.2.2.1 ∧ (∀ k, k ≠ 4 → k ≠ 5 → z.1.2.2.2 k = x.2.2.2 k) ∧ ∀ j, j < i → j < w.1 → z.1.2.2.2 4 j = thrF w.2 j ∧ z.1.2.2.2 5 j = thrF v.2 j) 16 (fun y => y.1 = s0.1 ∧ y.2.2.1 = s0.2.2.1 ∧ (∀ k, k ≠ 4 → k ≠ 5 → y.2.2.2 k = x.2.2.2 k) ∧ ∀ j, j < w.1 → y.2.2.2 4 j = thrF w.2 j ∧ y.2.2.2 5 j = thrF v.2 j) (fun i z hi hI => Or.inl ?_) (fun z hI => ?_) 0 (x, 0) (Nat.zero_le _) ⟨rfl, b2, b3, fun _ _ _ => rfl, fun j hj => by omega⟩
    · obtain ⟨y, c1, c2, c3, c4, c5⟩ := a2
      have hy0 : y.1 0 = nI w.1 := by rw [c2, hs0, oI_ne _ (by decide), oI_self]
      have hy1 : y.1 1 = nI w.2.length := by rw [c2, hs0, oI_self]
      obtain ⟨t, d1, d2, d3⟩ := oneKind_8 (st := y) (D := 0) (by decide) (n := w.1) (by omega)
      have hLy : LD8 y w v := ⟨hy0, hy1, hN, h64, hv, hl, fun i hi => by
        rw [c4 2 (by decide) (by decide), c4 3 (by decide) (by decide)]
        exact b5 i (by omega), c5⟩
      refine ⟨t, ?_, hLy.or d3, d2, fun k hk => ?_, ?_⟩
      · unfold f_X8_load
        rw [h1.1.1, min_J9, ob_s, if_neg (show ¬ (16 : Int32) < nI w.1 from nI_nlt (a := 16) hN (by decide)), h1.1.2.1]
        dsimp only [bnd]
        rw [← hs0, b1, ob_s, c1, ob_s, hy0, show (0 : Int32) = nI 0 from rfl, d1, ob_s]
      · rw [d3.2.1 k hk, c3, hs0]; rfl
      · rw [d3.2.2.1 13 (by decide) (by decide), c4 13 (by decide) (by decide), b4 13 (by decide) (by decide), hs0]; rfl
    · obtain ⟨y, b⟩ := z
      obtain ⟨e1, e2, e3, e4, e5⟩ := hI
      dsimp only at e1 e2 e3 e4 e5
      subst e1
      obtain ⟨u1, hu1⟩ : ∃ u1, f_X10_throughAt stn (nI i) = some u1 ∧ (i < w.1 → u1 = thrF w.2 i) := by
        rcases Nat.lt_or_ge i w.1 with q | q
        · exact ⟨_, throughAt_10 h1 q, fun _ => rfl⟩
        · exact ⟨_, throughAt_out h1 q (by omega), fun z => by omega⟩
      obtain ⟨u2, hu2⟩ : ∃ u2, f_X10_throughAt sto (nI i) = some u2 ∧ (i < w.1 → u2 = thrF v.2 i) := by
        rcases Nat.lt_or_ge i v.1 with q | q
        · exact ⟨_, throughAt_10 h2 q, fun _ => rfl⟩
        · exact ⟨_, throughAt_out h2 q (by omega), fun z => by omega⟩
      refine ⟨(oB (oB y 4 (vp_updL (y.2.2.2 4) i u1)) 5 (vp_updL (y.2.2.2 5) i u2), nI (i + 1)), ?_, rfl, e2, e3, fun k h4 h5 => ?_, fun j hj hjw => ?_⟩
      · unfold f_X8_load_59
        dsimp only
        rw [if_neg (show ¬ (16 : Int32) ≤ nI i from nI_ge (b := 16) hi (by decide)), hu1.1, ob_s, if_pos (inb_t hi (by omega)), nI_clamp (by omega), hu2.1]
        dsimp only [bnd]
        rw [ob_s, oB_ne (j := 5) _ (by decide), nI_1]
      · dsimp only
        rw [oB_ne _ h5, oB_ne _ h4]; exact e4 k h4 h5
      · dsimp only
        rw [oB_ne (j := 4) _ (by decide), oB_self, oB_self]
        unfold vp_updL
        by_cases c : j = i
        · rw [if_pos c, if_pos c, c, hu1.2 (by omega), hu2.2 (by omega)]; exact ⟨rfl, rfl⟩
        · rw [if_neg c, if_neg c]; exact e5 j (by omega) hjw
    · obtain ⟨y, b⟩ := z
      obtain ⟨e1, e2, e3, e4, e5⟩ := hI
      dsimp only at e1 e2 e3 e4 e5
      subst e1
      refine ⟨y, ?_, e2, e3, e4, fun j hj => e5 j (by omega) hj⟩
      unfold f_X8_load_59
      dsimp only
      rw [if_pos (show (16 : Int32) ≤ nI 16 from nI_le (Nat.le_refl 16) (by decide))]
  · obtain ⟨y, b⟩ := z
    obtain ⟨e1, e2, e3, e4, e5⟩ := hI
    dsimp only at e1 e2 e3 e4 e5
    subst e1
    refine ⟨(oB (oB y 2 (vp_updL (y.2.2.2 2) i (wl w.2 i))) 3 (vp_updL (y.2.2.2 3) i (wl v.2 i)), nI (i + 1)), ?_, rfl, e2, e3, fun k h4 h5 => ?_, fun j hj => ?_⟩
    · unfold f_X8_load_23
      dsimp only
      rw [if_neg (show ¬ (64 : Int32) ≤ nI i from nI_ge (b := 64) hi (by decide)), setAt_any h1.1 (by omega), ob_s, if_pos (inb_t hi (by omega)), nI_clamp (by omega), setAt_any h2.1 (by omega)]
      dsimp only [bnd]
      rw [ob_s, oB_ne (j := 3) _ (by decide), nI_1]
    · dsimp only
      rw [oB_ne _ h5, oB_ne _ h4]; exact e4 k h4 h5
    · dsimp only
      rw [oB_ne (j := 2) _ (by decide), oB_self, oB_self]
      unfold vp_updL
      by_cases c : j = i
      · rw [if_pos c, if_pos c, c]; exact ⟨rfl, rfl⟩
      · rw [if_neg c, if_neg c]; exact e5 j (by omega)
  · obtain ⟨y, b⟩ := z
    obtain ⟨e1, e2, e3, e4, e5⟩ := hI
    dsimp only at e1 e2 e3 e4 e5
    subst e1
    refine ⟨y, ?_, e2, e3, e4, e5⟩
    unfold f_X8_load_23
    dsimp only
    rw [if_pos (show (64 : Int32) ≤ nI 64 from nI_le (Nat.le_refl 64) (by decide))]
theorem load_same (st stn : OS) : f_X8_load_same st stn = f_X8_load st stn stn := rfl
/-- a row settled for one world with itself -/
theorem settle_self (hL : LD8 st w w) {D : Nat} (hD : D < 16) (h : RW8 st D (RA w D) (RA w D)) (g : KP w.1 (RA w D) (RA w D)) : ∃ x, f_X8_settleKinds st (nI D) = some (1, x) ∧ SR8 D st x ∧ RW8 x D (SA w D) (SA w D) ∧ AF8 w D := by
  have hid : IS2 w w (fun i => i) (fun i => i) := ⟨BJ.id, BJ.id, fun _ _ _ _ => rfl⟩
  obtain ⟨c, x, a1, a2, a3, a4, a5⟩ := settle_8 hL hD h g
  have hc : c = 1 := a5 ⟨_, _, hid, fun k i _ hi => hi⟩
  subst hc
  obtain ⟨l', m', b1, b2, b3, b4, b5, b6⟩ := a4 rfl
  have hi := b6 _ _ hid (fun k i _ hi => hi)
  have hlm : l' = m' := wl_ext b2.2.2.1 (fun k hk => tb_ext (fun i _ => by
    by_cases q : i < w.1
    · exact hi.iff b2 q hk
    · have z1 : tb (wl l' k) i = false := eq_false_of_ne_true (fun z => q (b2.1.1 k i hk z))
      have z2 : tb (wl m' k) i = false := eq_false_of_ne_true (fun z => q (b2.2.1.1 k i (by have := b2.2.2.1; omega) z))
      rw [z1, z2]))
  have hS : l' = SA w D := b4
  subst hlm
  rw [hS] at b1 b2 b3 b6
  exact ⟨x, a1, a2, b1, g, b2, fun π ⟨σ, i1⟩ i2 => b6 π σ i1 i2, b3⟩
theorem spl_self {k p : Nat} {l : List Int64} {N : Nat} (g : KP N l l) (hN : N ≤ 64) (hk : k < l.length) (h2 : 2 ≤ pcn (wl l k)) (hp : tb (wl l k) p = true) : KP N (spl l k (bit1 p)) (spl l k (bit1 p)) := by
  have h64 := g.1.1 k p hk hp
  have hs : ∀ i, tb (bit1 p) i = true → tb (wl l k) i = true := fun i z => by
    rw [tb_bit1 (by omega)] at z
    rw [of_decide_eq_true z]; exact hp
  exact g.split hk hs hs (bit1_ne (by omega)) (fun z => by rw [← z, pcn_bit1 (by omega)] at h2; omega) rfl
theorem tellAll_8 (hL : LD8 st w w) (h : RW8 st 0 (one1 w.1) (one1 w.1)) : ∃ dep t, f_X8_tellAllApart st = some (nI dep, t) ∧ LD8 t w w ∧ DEP w dep ∧ ∀ d, d < dep → RW8 t d (SA w d) (SA w d) ∧ t.2.2.2 13 d = bit1 (bsA w d) ∧ t.2.2.1 14 d = nI (bsA w d) := by
  have hN := hL.2.2.1
  have key := lpv_inv (f := f_X8_tellAllApart_4) (fun i z => z.2.1 = nI i ∧ z.2.2 = nI i ∧ LD8 z.1 w w ∧ KP w.1 (RA w i) (RA w i) ∧ RW8 z.1 i (RA w i) (RA w i) ∧ (i < (RA w i).length ∨ w.1 = 0) ∧ ∀ d, d < i → (AF8 w d ∧ ∃ k, und (SA w d) = some k) ∧ RW8 z.1 d (SA w d) (SA w d) ∧ z.1.2.2.2 13 d = bit1 (bsA w d) ∧ z.1.2.2.1 14 d = nI (bsA w d)) 15 (fun r => ∃ dep, r.2.2 = nI dep ∧ LD8 r.2.1 w w ∧ DEP w dep ∧ ∀ d, d < dep → RW8 r.2.1 d (SA w d) (SA w d) ∧ r.2.1.2.2.2 13 d = bit1 (bsA w d) ∧ r.2.1.2.2.1 14 d = nI (bsA w d)) (fun i z hi hI => ?_) (fun z hI => ?_) 0 (st, 0, 0) (Nat.zero_le _) ⟨rfl, rfl, hL, one1_KP (by omega), h, by
    rw [show RA w 0 = one1 w.1 from rfl, one1_len]
    by_cases c : w.1 = 0
    · exact Or.inr c
    · left; rw [if_neg c]; omega, fun d hd => by omega⟩
  · obtain ⟨⟨r, x, d⟩, e1, dep, e2, e3, e4, e5⟩ := key
    dsimp only at e2 e3 e5
    subst e2
    refine ⟨dep, x, ?_, e3, e4, e5⟩
    unfold f_X8_tellAllApart
    rw [e1, ob_s]
    dsimp only
    rw [ite_self]
  · obtain ⟨s, b1, b2⟩ := z
    obtain ⟨g1, g2, g3, g4, g5, g6, g7⟩ := hI
    dsimp only at g1 g2 g3 g5 g7
    subst g1 g2
    obtain ⟨t, a1, a2, a3, a4⟩ := settle_self g3 (show i < 16 by omega) g5 g4
    have hK := a4.2.1
    have hlen := hK.len
    have hLt := g3.s a2
    have htk : TK8 i i s t := a2.t (by omega)
    have keep : ∀ x : OS, TK8 i i s x → x.2.2.2 13 = s.2.2.2 13 → ∀ d, d < i → RW8 x d (SA w d) (SA w d) ∧ x.2.2.2 13 d = bit1 (bsA w d) ∧ x.2.2.1 14 d = nI (bsA w d) := fun x hx h13 d hd => by
      obtain ⟨⟨⟨_, k1, _⟩, _⟩, k2, k3, k4⟩ := g7 d hd
      have := k1.len
      exact ⟨hx.row hd (by omega) k2, by rw [h13]; exact k3, by rw [hx.2.2.2.2.1 d hd]; exact k4⟩
    cases hu : und (SA w i) with
    | none =>
      right
      have h1 : ∀ k, k < (SA w i).length → pcn (wl (SA w i) k) = 1 := fun k hk => und_none hK hN hu hk
      refine ⟨(0, t, nI i), ?_, i, rfl, hLt, ⟨by omega, fun d hd => (g7 d hd).1, fun d hd => ?_, g4, fun π i1 i2 p hp => RSP.one hK.1 h1 (a4.2.2.1 π i1 i2) hp⟩, keep t htk (a2.2.2.1 13 (by decide) (by decide) (by decide) (by decide))⟩
      · unfold f_X8_tellAllApart_4
        dsimp only
        rw [nI_1, if_neg (show ¬ (16 : Int32) ≤ nI (i + 1) from nI_ge (b := 16) (by omega) (by decide)), a1, ob_s]
        dsimp only
        rw [und_8 (by omega) a3 (by omega), ob_s, hu, oN_none, if_pos rfl]
      · rw [show d = i + (d - i) by omega, SA_end h1]
        exact hu
    | some k =>
      left
      obtain ⟨k1, k2⟩ := und_some hu
      have hne := hK.2.2.2.1 k k1
      obtain ⟨t1, t2, t3⟩ := low_tb hne
      have hbs := bsA_eq hu
      rw [← hbs] at t1 t2
      have hpN := hK.1.1 k _ k1 t1
      obtain ⟨x, y1, y2, y3⟩ := tellApart_8 (N := w.1) (show i + 1 < 16 by omega) a3 (by omega) hK k1 k2 (p := bsA w i) (by omega) (t := bsA w i) (by omega) (by omega)
      have hk2 := spl_self hK (by omega) k1 k2 t1
      have h13 : x.2.2.2 13 = s.2.2.2 13 := by rw [y3.2.2.1 13 (by decide) (by decide), a2.2.2.1 13 (by decide) (by decide) (by decide) (by decide)]
      have htx : TK8 i i s x := htk.tr (y3.t.le (by omega) (Nat.le_refl _))
      have hrow : RW8 x i (SA w i) (SA w i) := y3.t.row (by omega) (by omega) a3
      have o13 : ∀ (E : Nat) (l m : List Int64) (f : Nat → Int64), RW8 x E l m → RW8 (oB x 13 f) E l m := fun E l m f ⟨z1, z2, z3, z4⟩ => ⟨z1, z2, fun k hk => by rw [oB_ne (j := 7) _ (by decide)]; exact z3 k hk, fun k hk => by rw [oB_ne (j := 8) _ (by decide)]; exact z4 k hk⟩
      have hlenle : i < (RA w i).length := by
        rcases g6 with q | q
        · exact q
        · omega
      have hge : (RA w i).length ≤ (SA w i).length := fb_holes _ _ (fun k => kf (SA w i) (low (wl (RA w i) k))) (fun j hj => (kf_ok hK.1 (g4.1.1 j _ hj (low_tb (g4.2.2.2.1 j hj)).1)).1) (fun a b hab hb e => by
        have x1 := (low_tb (g4.2.2.2.1 a (by omega))).1
        have x2 := (low_tb (g4.2.2.2.1 b hb)).1
        obtain ⟨u1, u2⟩ := kf_ok hK.1 (g4.1.1 a _ (by omega) x1)
        obtain ⟨z1, z2⟩ := kf_ok hK.1 (g4.1.1 b _ hb x2)
        have e' : kf (SA w i) (low (wl (RA w i) a)) = kf (SA w i) (low (wl (RA w i) b)) := e
        rw [← e'] at z2
        obtain ⟨o, o1, o2, _⟩ := a4.2.2.2 _ u1
        have p1 := g4.1.2.2 _ _ _ o1 (by omega) (o2 _ u2) x1
        have p2 := g4.1.2.2 _ _ _ o1 hb (o2 _ z2) x2
        omega)
      refine ⟨(oB x 13 (vp_updL (x.2.2.2 13) i (bit1 (bsA w i))), nI (i + 1), nI (i + 1)), ?_, rfl, rfl, (hLt.t y3.t).cong rfl (fun j hj => by dsimp only; rw [oB_ne _ (by omega)]), by rw [RA_eq hu]; exact hk2, by rw [RA_eq hu]; exact o13 _ _ _ _ y2, ?_, fun d hd => ?_⟩
      · unfold f_X8_tellAllApart_4
        dsimp only
        rw [nI_1, if_neg (show ¬ (16 : Int32) ≤ nI (i + 1) from nI_ge (b := 16) (by omega) (by decide)), a1, ob_s]
        dsimp only
        rw [und_8 (by omega) a3 (by omega), ob_s, hu, oN_some, if_neg (nI_m1 (n := k) (by omega)), ix64, if_pos (inb_t (by omega) (by omega)), nI_clamp (by omega), a3.2.2.1 k k1, lowest_10, ob_s, if_neg hne, ← hbs, y1, ob_s, if_pos (inb_t (by omega) (by omega)), nI_clamp (by omega), sh1 t2]
        rfl
      · left
        rw [RA_eq hu, spl_len]
        omega
      · rcases Nat.lt_or_ge d i with q | q
        · obtain ⟨z1, z2, z3⟩ := keep x htx h13 d q
          refine ⟨(g7 d q).1, o13 _ _ _ _ z1, ?_, z3⟩
          dsimp only
          rw [oB_self]
          unfold vp_updL
          rw [if_neg (by omega)]
          exact z2
        · have : d = i := by omega
          subst this
          refine ⟨⟨a4, k, hu⟩, o13 _ _ _ _ hrow, ?_, y3.2.2.2.2.2.1⟩
          dsimp only
          rw [oB_self]
          exact if_pos rfl
  · obtain ⟨s, b1, b2⟩ := z
    obtain ⟨g1, g2, g3, g4, g5, g6, g7⟩ := hI
    dsimp only at g1 g2 g3 g5 g7
    subst g1 g2
    have hlen := g4.len
    have h1 : ∀ k, k < (RA w 15).length → pcn (wl (RA w 15) k) = 1 := fun k hk => by
      have a1 := plc_eq g4
      have a2 := plc_cnt g4.1 _ (Nat.le_refl _)
      have a3 := plc_N g4.1 (show w.1 ≤ 64 by omega) (Nat.le_refl _)
      have low1 : ∀ n, n ≤ (RA w 15).length → n ≤ plc (RA w 15) n ∧ (k < n → n + pcn (wl (RA w 15) k) ≤ plc (RA w 15) n + 1) := by
        intro n
        induction n with
        | zero => intro _; exact ⟨Nat.zero_le _, fun z => by omega⟩
        | succ n ih =>
          intro hn
          obtain ⟨b1, b2⟩ := ih (by omega)
          have b3 := pcn_pos' (g4.2.2.2.1 n (by omega))
          have b4 : plc (RA w 15) (n + 1) = plc (RA w 15) n + pcn (wl (RA w 15) n) := rfl
          refine ⟨by omega, fun z => ?_⟩
          rcases Nat.lt_or_ge k n with q | q
          · have := b2 q; omega
          · have : k = n := by omega
            subst this
            omega
      have c1 := (low1 _ (Nat.le_refl _)).2 hk
      have c2 := pcn_pos' (g4.2.2.2.1 k hk)
      rcases g6 with q | q
      · omega
      · omega
    have hSA : SA w 15 = RA w 15 := stl_one h1 17
    refine ⟨(1, s, nI 15), ?_, 15, rfl, g3, ⟨by omega, fun d hd => (g7 d hd).1, fun d hd => ?_, g4, fun π i1 i2 p hp => RSP.one g4.1 h1 i2 hp⟩, fun d hd => (g7 d hd).2⟩
    · unfold f_X8_tellAllApart_4
      dsimp only
      rw [nI_1, if_pos (show (16 : Int32) ≤ nI (15 + 1) from nI_le (Nat.le_refl 16) (by decide))]
    · rw [show d = 15 + (d - 15) by omega, SA_end (by rw [hSA]; exact h1), hSA]
      exact und_one h1
end T8L
