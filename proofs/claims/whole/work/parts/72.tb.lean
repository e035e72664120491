/-! turnings: how many ways there are -/
noncomputable def pd (P : Prop) : Bool := @decide P (Classical.propDecidable P)
theorem pd_iff {P : Prop} : pd P = true ↔ P := @decide_eq_true_iff P (Classical.propDecidable P)
/-- a row of numbers below 16 in one -/
def d16 (c p : Nat) : Nat := c / 16 ^ p % 16
theorem d16_s (c p : Nat) : d16 c (p + 1) = d16 (c / 16) p := by
  unfold d16
  rw [Nat.pow_succ, Nat.mul_comm (16 ^ p) 16, ← Nat.div_div_eq_div_mul]
theorem d16_ex : ∀ (n : Nat) (f : Nat → Nat), (∀ p, p < n → f p < 16) → ∃ c, c < 16 ^ n ∧ ∀ p, p < n → d16 c p = f p := by
  intro n
  induction n with
  | zero => intro f _; exact ⟨0, by decide, fun p hp => by omega⟩
  | succ n ih =>
    intro f h
    obtain ⟨c, h1, h2⟩ := ih (fun p => f (p + 1)) (fun p hp => h (p + 1) (by omega))
    have h0 := h 0 (by omega)
    refine ⟨f 0 + 16 * c, by rw [Nat.pow_succ]; omega, fun p hp => ?_⟩
    cases p with
    | zero =>
      unfold d16
      rw [Nat.pow_zero, Nat.div_one]
      omega
    | succ p =>
      rw [d16_s, show (f 0 + 16 * c) / 16 = c by omega]
      exact h2 p (by omega)
theorem d16_inj : ∀ (n c c' : Nat), c < 16 ^ n → c' < 16 ^ n → (∀ p, p < n → d16 c p = d16 c' p) → c = c' := by
  intro n
  induction n with
  | zero => intro c c' h1 h2 _; rw [Nat.pow_zero] at h1 h2; omega
  | succ n ih =>
    intro c c' h1 h2 h
    rw [Nat.pow_succ] at h1 h2
    have e1 := ih (c / 16) (c' / 16) (by omega) (by omega) (fun p hp => by rw [← d16_s, ← d16_s]; exact h (p + 1) (by omega))
    have e2 := h 0 (by omega)
    unfold d16 at e2
    rw [Nat.pow_zero, Nat.div_one, Nat.div_one] at e2
    omega
/-- a way that keeps some points -/
def FX (w : Wd) (F : Nat → Prop) (π : Nat → Nat) : Prop := ISO w w π ∧ ∀ x, x < w.1 → F x → π x = x
theorem FX.cong {w : Wd} {F : Nat → Prop} {π ρ : Nat → Nat} (h : FX w F π) (e : ∀ p, p < w.1 → ρ p = π p) : FX w F ρ := ⟨h.1.cong e, fun x hx hF => by rw [e x hx]; exact h.2 x hx hF⟩
theorem FX.comp {w : Wd} {F : Nat → Prop} {π ρ : Nat → Nat} (h : FX w F π) (g : FX w F ρ) : FX w F (fun p => π (ρ p)) := ⟨ISO.comp rfl rfl h.1 g.1, fun x hx hF => by dsimp only; rw [g.2 x hx hF, h.2 x hx hF]⟩
theorem FX.inv {w : Wd} {F : Nat → Prop} {π : Nat → Nat} (h : FX w F π) : FX w F (binv w.1 π) := ⟨ISO.inv rfl rfl h.1, fun x hx hF => by
  have := binv_l h.1.bj hx
  rw [h.2 x hx hF] at this
  exact this⟩
/-- how many -/
noncomputable def NA (w : Wd) (F : Nat → Prop) : Nat := cnt (fun c => pd (FX w F (d16 c))) (16 ^ w.1)
/-- to how many points a point is carried -/
noncomputable def oc (w : Wd) (F : Nat → Prop) (b : Nat) : Nat := cnt (fun x => pd (∃ π, FX w F π ∧ π b = x)) w.1
theorem NA_cong {w : Wd} {F G : Nat → Prop} (h : ∀ x, x < w.1 → (F x ↔ G x)) : NA w F = NA w G := by
  unfold NA
  congr 1
  funext c
  congr 1
  apply propext
  exact ⟨fun z => ⟨z.1, fun x hx hG => z.2 x hx ((h x hx).mpr hG)⟩, fun z => ⟨z.1, fun x hx hG => z.2 x hx ((h x hx).mp hG)⟩⟩
theorem cnt_fib {P : Nat → Bool} {v : Nat → Nat} {O : Nat → Bool} {K M : Nat} (hf : ∀ x, cnt (fun c => P c && decide (v c = x)) M = if O x = true then K else 0) : ∀ n, cnt (fun c => P c && decide (v c < n)) M = cnt O n * K := by
  intro n
  induction n with
  | zero =>
    rw [show cnt O 0 = 0 from rfl, Nat.zero_mul, cnt_0]
    intro i _
    rw [decide_eq_false (Nat.not_lt_zero _), Bool.and_false]
  | succ n ih =>
    rw [cnt_split _ (fun c => decide (v c < n)) M, cnt_s, Nat.add_mul, ← ih]
    congr 1
    · exact cnt_cong (fun c _ => by
        by_cases q : v c < n
        · rw [decide_eq_true q, decide_eq_true (show v c < n + 1 by omega)]
          cases P c <;> rfl
        · rw [decide_eq_false q]
          cases P c <;> simp)
    · rw [show (if O n = true then 1 else 0) * K = if O n = true then K else 0 by split <;> simp, ← hf n]
      exact cnt_cong (fun c _ => by
        by_cases q : v c < n
        · rw [decide_eq_true q, decide_eq_false (show ¬ v c = n by omega)]
          cases P c <;> simp
        · rw [decide_eq_false q]
          by_cases r : v c = n
          · rw [decide_eq_true r, decide_eq_true (show v c < n + 1 by omega)]
            cases P c <;> rfl
          · rw [decide_eq_false r, decide_eq_false (show ¬ v c < n + 1 by omega)]
            cases P c <;> rfl)
theorem NA_step {w : Wd} (hN : w.1 ≤ 16) (F : Nat → Prop) {b : Nat} (hb : b < w.1) : NA w F = oc w F b * NA w (fun x => F x ∨ x = b) := by
  have h1 : NA w F = cnt (fun c => pd (FX w F (d16 c)) && decide (d16 c b < w.1)) (16 ^ w.1) := cnt_cong (fun c _ => by
    cases hp : pd (FX w F (d16 c)) with
    | false => rfl
    | true =>
      have := (pd_iff.mp hp).1.bj.1 b hb
      rw [decide_eq_true this]
      rfl)
  rw [h1]
  refine cnt_fib (O := fun x => pd (∃ π, FX w F π ∧ π b = x)) (fun x => ?_) w.1
  by_cases c : ∃ π, FX w F π ∧ π b = x
  · rw [if_pos (pd_iff.mpr c)]
    obtain ⟨g, g1, g2⟩ := c
    have gi := g1.inv
    have gb := g1.1.bj
    have hx : x < w.1 := by rw [← g2]; exact gb.1 b hb
    have hgx : binv w.1 g x = b := by rw [← g2]; exact binv_l gb hb
    refine Nat.le_antisymm (cnt_rel (R := fun c c' => ∀ p, p < w.1 → d16 c p = g (d16 c' p)) _ _ (fun c hc hp => ?_) (fun i k j hi hk _ _ r1 r2 => d16_inj _ _ _ hi hk (fun p hp => (r1 p hp).trans (r2 p hp).symm))) (cnt_rel (R := fun c' c => ∀ p, p < w.1 → d16 c p = g (d16 c' p)) _ _ (fun c' hc hp => ?_) (fun i k j hi hk hpi hpk r1 r2 => d16_inj _ _ _ hi hk (fun p hp => ?_)))
    · rw [Bool.and_eq_true] at hp
      have f1 := pd_iff.mp hp.1
      have f2 := of_decide_eq_true hp.2
      have f3 := gi.comp f1
      obtain ⟨c', e1, e2⟩ := d16_ex w.1 (fun p => binv w.1 g (d16 c p)) (fun p hp => by have := f3.1.bj.1 p hp; dsimp only at this ⊢; omega)
      refine ⟨c', e1, pd_iff.mpr ?_, fun p hp => ?_⟩
      · have f4 := f3.cong e2
        refine ⟨f4.1, fun y hy hF => ?_⟩
        rcases hF with hF | hF
        · exact f4.2 y hy hF
        · rw [hF, e2 b hb]
          rw [f2, hgx]
      · rw [e2 p hp]
        exact (binv_ok gb (f1.1.bj.1 p hp)).2.symm
    · have f1 := pd_iff.mp hp
      have f2 : FX w F (d16 c') := ⟨f1.1, fun y hy hF => f1.2 y hy (Or.inl hF)⟩
      have f3 := g1.comp f2
      obtain ⟨c, e1, e2⟩ := d16_ex w.1 (fun p => g (d16 c' p)) (fun p hp => by have := f3.1.bj.1 p hp; dsimp only at this ⊢; omega)
      refine ⟨c, e1, ?_, e2⟩
      rw [Bool.and_eq_true]
      refine ⟨pd_iff.mpr (f3.cong e2), decide_eq_true ?_⟩
      rw [e2 b hb]
      rw [f1.2 b hb (Or.inr rfl), g2]
    · have f1 := pd_iff.mp hpi
      have f2 := pd_iff.mp hpk
      exact gb.2 _ _ (f1.1.bj.1 p hp) (f2.1.bj.1 p hp) ((r1 p hp).symm.trans (r2 p hp))
  · rw [if_neg (fun z => c (pd_iff.mp z)), cnt_0]
    intro i _
    cases hp : pd (FX w F (d16 i)) with
    | false => rfl
    | true =>
      rw [Bool.true_and]
      exact decide_eq_false (fun z => c ⟨_, pd_iff.mp hp, z⟩)
theorem NA_one {w : Wd} (hN : w.1 ≤ 16) {F : Nat → Prop} (h : ∀ π, FX w F π → ∀ p, p < w.1 → π p = p) : NA w F = 1 := by
  obtain ⟨c, e1, e2⟩ := d16_ex w.1 (fun p => p) (fun p hp => by omega)
  have hid : FX w F (d16 c) := FX.cong (π := fun p => p) ⟨ISO.id, fun _ _ _ => rfl⟩ e2
  have hdel := cnt_del (p := fun c => pd (FX w F (d16 c))) (k := c) (pd_iff.mpr hid) e1
  have hz : cnt (fun i => pd (FX w F (d16 i)) && decide (i ≠ c)) (16 ^ w.1) = 0 := cnt_0.mpr (fun i hi => by
    cases hp : pd (FX w F (d16 i)) with
    | false => rfl
    | true =>
      rw [Bool.true_and]
      refine decide_eq_false (fun z => z (d16_inj _ _ _ hi e1 (fun p hp2 => ?_)))
      rw [h _ (pd_iff.mp hp) p hp2, e2 p hp2])
  unfold NA
  omega
/-- the first ones told apart -/
def Fb (w : Wd) (d x : Nat) : Prop := ∃ e, e < d ∧ x = bsA w e
theorem fx_aut {w : Wd} {dep d : Nat} (hD : DEP w dep) (hd : d ≤ dep) (π : Nat → Nat) : FX w (Fb w d) π ↔ AUT w d π := by
  constructor
  · intro h
    refine ⟨h.1, fun e he => h.2 _ ?_ ⟨e, he, rfl⟩⟩
    obtain ⟨_, _, _, _, hb, _⟩ := hD.bs (show e < dep by omega)
    exact hb
  · intro h
    refine ⟨h.1, fun x _ ⟨e, he, hx⟩ => by rw [hx]; exact h.2 e he⟩
section T8N
variable {st stn sto : OS} {w v : Wd}
theorem count_8 (h1 : CW stn w) (hN : w.1 ≤ 16) : ∃ dep x, f_X8_countTurnings st stn = some (lN (NA w (fun _ => False)), x) ∧ DEP w dep ∧ WS8 x w dep 0 := by
  obtain ⟨s1, a1, a2, a3, -, -⟩ := load_8 (st := st) h1 h1 hN rfl rfl
  obtain ⟨dep, s2, b1, b2, hD, b4⟩ := tellAll_8 a2 a3
  have hd15 := hD.1
  -- the classes at first
  have c1 := lpv_for (f := f_X8_countTurnings_13 stn (nI dep)) (fun q => (oA s2 12 (fun i => if i < q then nI i else s2.2.2.1 12 i), nI q)) 16 (r := oA s2 12 (fun i => if i < 16 then nI i else s2.2.2.1 12 i)) (fun q hq => ?_) ?_ 0 (Nat.zero_le _)
  · have e0 : oA s2 12 (fun i => if i < 0 then nI i else s2.2.2.1 12 i) = s2 := by
      rw [show (fun i => if i < 0 then nI i else s2.2.2.1 12 i) = s2.2.2.1 12 from funext fun i => if_neg (by omega)]
      unfold oA
      refine Prod.ext rfl (Prod.ext rfl (Prod.ext (funext fun z => ?_) rfl))
      by_cases c : z = 12
      · subst c; simp [va_up]
      · simp [va_up, c]
    rw [e0, show nI 0 = (0 : Int32) from rfl] at c1
    obtain ⟨s3, hs3⟩ : ∃ s3, s3 = oA s2 12 (fun i => if i < 16 then nI i else s2.2.2.1 12 i) := ⟨_, rfl⟩
    rw [← hs3] at c1
    have h12 : ∀ i, i < 16 → s3.2.2.1 12 i = nI i := fun i hi => by
      rw [hs3, oA_self]
      exact if_pos hi
    have hws : WS8 s3 w dep dep := by
      refine ⟨b2.cong (by rw [hs3]; rfl) (fun k _ => by rw [hs3]; rfl), fun e he => ⟨?_, ?_⟩, ⟨fun e he => ?_, fun e h1 h2 => by omega⟩, fun x y hx hy e => ?_, fun π hπ z hz => ?_⟩
      · obtain ⟨z1, z2, z3, z4⟩ := (b4 e he).1
        exact ⟨by rw [hs3, oA_ne (j := 6) _ (by decide)]; exact z1, z2, fun k hk => by rw [hs3]; exact z3 k hk, fun k hk => by rw [hs3]; exact z4 k hk⟩
      · rw [hs3, oA_ne (j := 14) _ (by decide)]; exact (b4 e he).2.2
      · rw [hs3]; exact (b4 e he).2.1
      · rw [h12 x (by omega), h12 y (by omega)] at e
        have hxy : x = y := (nI_eq (by omega) (by omega)).mp e
        exact ⟨fun p => p, AUT.id, hxy, fun _ _ => rfl⟩
      · rw [hπ.last hN hD z hz]
    have key := lpv_inv (f := f_X8_countTurnings_39 stn) (fun i z => ∃ d, d + i = dep ∧ z.2.2 = nI d - 1 ∧ WS8 z.1 w dep d ∧ z.2.1 = lN (NA w (Fb w d))) dep (fun r => WS8 r.1 w dep 0 ∧ r.2 = lN (NA w (Fb w 0))) (fun i z hi hI => Or.inl ?_) (fun z hI => ?_) 0 (s3, 1, nI dep - 1) (Nat.zero_le _) ⟨dep, by omega, rfl, hws, ?_⟩
    · obtain ⟨⟨x, r⟩, e1, e2, e3⟩ := key
      dsimp only at e2 e3
      refine ⟨dep, x, ?_, hD, e2⟩
      unfold f_X8_countTurnings
      rw [load_same, a1, ob_s, b1, ob_s]
      dsimp only
      rw [c1, ob_s]
      dsimp only [bnd]
      rw [e1, ob_s, e3, NA_cong (G := fun _ => False) (fun x _ => ⟨fun ⟨e, he, _⟩ => by omega, fun z => z.elim⟩)]
    · obtain ⟨s, m, c⟩ := z
      obtain ⟨d, g1, g2, g3, g4⟩ := hI
      dsimp only at g2 g3 g4
      subst g2 g4
      cases d with
      | zero => omega
      | succ d =>
        obtain ⟨x, y1, y2⟩ := widen_8 hD (show d < dep by omega) g3
        have hpred : nI (d + 1) - 1 = nI d := pk_sub (a := d + 1) (b := 1) (by omega)
        obtain ⟨k, hu, k1, t1, tN, -, -, -⟩ := hD.bs (show d < dep by omega)
        have hoc : pcn (x.2.2.2 13 d) = oc w (Fb w d) (bsA w d) := by
          rw [pcn_N (N := w.1) (by omega) (fun y hy => ((y2.2.2.1.2 d (by omega) (by omega) y).mp hy).lt tN)]
          unfold oc
          refine cnt_cong (fun y _ => Bool.eq_iff_iff.mpr ?_)
          rw [y2.2.2.1.2 d (Nat.le_refl _) (by omega) y, pd_iff]
          exact ⟨fun ⟨π, p1, p2⟩ => ⟨π, (fx_aut hD (by omega) π).mpr p1, p2⟩, fun ⟨π, p1, p2⟩ => ⟨π, (fx_aut hD (by omega) π).mp p1, p2⟩⟩
        have hna : NA w (Fb w (d + 1)) = NA w (fun x => Fb w d x ∨ x = bsA w d) := NA_cong (fun x _ => ⟨fun ⟨e, he, hx⟩ => by
          rcases Nat.lt_or_ge e d with q | q
          · exact Or.inl ⟨e, q, hx⟩
          · rw [show e = d by omega] at hx; exact Or.inr hx, fun z => z.elim (fun ⟨e, he, hx⟩ => ⟨e, by omega, hx⟩) (fun z => ⟨d, by omega, z⟩)⟩)
        refine ⟨(x, lN (NA w (Fb w d)), nI d - 1), ?_, d, by omega, rfl, y2, rfl⟩
        unfold f_X8_countTurnings_39
        dsimp only
        rw [hpred, if_neg (nI_pos (by omega)), if_neg (show ¬ (16 : Int32) ≤ nI d from nI_ge (b := 16) (by omega) (by decide)), y1, ob_s]
        dsimp only [bnd]
        have hp64 := pcn_le (x.2.2.2 13 d)
        rw [nI_64 (by omega), hoc, hna, NA_step hN (Fb w d) tN, Int32.sub_eq_add_neg]
        congr 4
        rw [Nat.mul_comm]
        exact (Int64.ofNat_mul _ _).symm
    · obtain ⟨s, m, c⟩ := z
      obtain ⟨d, g1, g2, g3, g4⟩ := hI
      dsimp only at g2 g3 g4
      have : d = 0 := by omega
      subst this
      refine ⟨(s, m), ?_, g3, g4⟩
      unfold f_X8_countTurnings_39
      dsimp only
      rw [g2, if_pos (by decide)]
    · rw [NA_one hN (fun π hπ p hp => ((fx_aut hD (Nat.le_refl _) π).mp hπ).last hN hD p hp)]
      rfl
  · unfold f_X8_countTurnings_13
    dsimp only
    rw [if_neg (show ¬ (16 : Int32) ≤ nI q from nI_ge (b := 16) hq (by decide)), if_pos (inb_t hq (by omega)), nI_clamp (by omega)]
    dsimp only [bnd]
    rw [oA_self, oA_same, nI_1]
    congr 3
    congr 1
    funext i
    unfold upd
    by_cases c : i = q
    · rw [if_pos c, if_pos (by omega), c]
    · rw [if_neg c]
      dsimp only
      by_cases e : i < q
      · rw [if_pos e, if_pos (by omega)]
      · rw [if_neg e, if_neg (by omega)]
  · unfold f_X8_countTurnings_13
    dsimp only
    rw [if_pos (show (16 : Int32) ≤ nI 16 from nI_le (Nat.le_refl 16) (by decide))]
/-- the orbit of a point as the class tells it -/
theorem orb_8 {dep p : Nat} (hN : w.1 ≤ 16) (h : WS8 st w dep 0) (hp : p < w.1) : ∃ s, f_X8_classOf st (nI p) = some s ∧ ∀ x, tb s x = true ↔ (x < w.1 ∧ ∃ π, ISO w w π ∧ π p = x) := by
  obtain ⟨h1, h2, h3, h4, h5⟩ := h
  refine ⟨_, classOf_8 h1.1 hN (by omega), fun x => ?_⟩
  rw [tb_clS (by omega)]
  constructor
  · rintro ⟨a, b⟩
    obtain ⟨g, g1, g2, _⟩ := h4 p x hp a b.symm
    exact ⟨a, g, g1.1, g2⟩
  · rintro ⟨a, π, b, c⟩
    refine ⟨a, ?_⟩
    have := h5 π ⟨b, fun e he => by omega⟩ p hp
    rw [c] at this
    exact this.symm
/-- worlds alike -/
def LKW (w v : Wd) : Prop := v.1 = w.1 ∧ v.2.length = w.2.length ∧ ∃ π, ISO w v π
theorem alike_8 {dep : Nat} (h1 : CW stn w) (h2 : CW sto v) (hN : w.1 ≤ 16) (hD : DEP w dep) (h : WS8 st w dep 0) : ∃ c x, f_X8_areAlike st stn sto = some (c, x) ∧ (c = 0 ∨ c = 1) ∧ (c = 1 ↔ LKW w v) := by
  have hn1 := h1.1.2.2.1
  have hn2 := h2.1.2.2.1
  have hl1 := h1.1.2.2.2.1
  have hl2 := h2.1.2.2.2.1
  unfold f_X8_areAlike
  rw [h1.1.1, h2.1.1, h1.1.2.1, h2.1.2.1]
  by_cases a : w.1 = v.1
  · rw [if_pos (congrArg nI a)]
    by_cases b : w.2.length = v.2.length
    · rw [if_pos (congrArg nI b)]
      obtain ⟨x, b1, b2, b3, b4, b5⟩ := load_8 (st := st) h1 h2 hN a.symm b.symm
      have hrc : RC8 x w dep 0 := ⟨fun e he => by omega, fun e z1 z2 y => by rw [b5]; exact h.2.2.1.2 e z1 z2 y⟩
      obtain ⟨c, y, z1, z2, z3, z4, z5⟩ := carryOn_8 20 0 x _ _ (by omega) (by omega) b2 b3 (one1_KP (by omega)) rfl (by
        rw [one1_len]
        by_cases q : w.1 = 0
        · exact Or.inr q
        · left; rw [if_neg q]; omega) (rc_HR hN hD hrc) (fun e he => by omega)
      refine ⟨c, y, ?_, z3, ?_⟩
      · rw [b1, ob_s, show (0 : Int32) = nI 0 from rfl, z1, ob_s]
        dsimp only
        rw [if_pos]
        rcases z3 with z3 | z3 <;> rw [z3] <;> decide
      · constructor
        · intro hc
          obtain ⟨π, q1, _⟩ := z4 hc
          exact ⟨a.symm, b.symm, π, q1⟩
        · rintro ⟨_, _, g, hg⟩
          obtain ⟨h', j1, j2⟩ := min_ex hD g (d := 0) dep (by omega)
          refine z5 ⟨fun p => g (h' p), ISO.comp rfl rfl hg j1.1, ?_, fun e he => by omega, fun e k' u he hu hy => ?_⟩
          · exact one1_RS (by omega) (ISO.comp rfl rfl hg j1.1).bj
          · have hed := hD.lt hu
            exact j2 e (by omega) (by omega) u ((hrc.2 e (by omega) hed u).mp hy)
    · rw [if_neg (fun z => b ((nI_eq (by omega) (by omega)).mp z))]
      exact ⟨0, st, rfl, Or.inl rfl, fun z => absurd z (by decide), fun z => absurd z.2.1.symm b⟩
  · rw [if_neg (fun z => a ((nI_eq (by omega) (by omega)).mp z))]
    exact ⟨0, st, rfl, Or.inl rfl, fun z => absurd z (by decide), fun z => absurd z.1.symm a⟩
end T8N
