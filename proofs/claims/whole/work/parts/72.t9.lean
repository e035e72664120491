/-! turnings: ways that keep the first ones told apart; classes -/
/-- a way that keeps the first d told apart -/
def AUT (w : Wd) (d : Nat) (π : Nat → Nat) : Prop := ISO w w π ∧ ∀ e, e < d → π (bsA w e) = bsA w e
theorem DEP.bs {w : Wd} {dep d : Nat} (h : DEP w dep) (hd : d < dep) : ∃ k, und (SA w d) = some k ∧ k < (SA w d).length ∧ tb (wl (SA w d) k) (bsA w d) = true ∧ bsA w d < w.1 ∧ 2 ≤ pcn (wl (SA w d) k) ∧ (∀ j, j < bsA w d → tb (wl (SA w d) k) j = false) ∧ RA w (d + 1) = spl (SA w d) k (bit1 (bsA w d)) := by
  obtain ⟨⟨a1, a2, a3, a4⟩, k, hu⟩ := h.2.1 d hd
  obtain ⟨k1, k2⟩ := und_some hu
  obtain ⟨t1, t2, t3⟩ := low_tb (a2.2.2.2.1 k k1)
  have e := bsA_eq hu
  rw [← e] at t1 t3
  exact ⟨k, hu, k1, t1, a2.1.1 k _ k1 t1, k2, t3, RA_eq hu⟩
theorem AUT.id {w : Wd} {d : Nat} : AUT w d (fun p => p) := ⟨ISO.id, fun _ _ => rfl⟩
theorem AUT.le {w : Wd} {d e : Nat} {π : Nat → Nat} (h : AUT w d π) (he : e ≤ d) : AUT w e π := ⟨h.1, fun j hj => h.2 j (by omega)⟩
theorem AUT.comp {w : Wd} {d : Nat} {π ρ : Nat → Nat} (h : AUT w d π) (g : AUT w d ρ) : AUT w d (fun p => π (ρ p)) := ⟨ISO.comp rfl rfl h.1 g.1, fun e he => by dsimp only; rw [g.2 e he, h.2 e he]⟩
theorem AUT.inv {w : Wd} {dep d : Nat} (hD : DEP w dep) (hd : d ≤ dep) {π : Nat → Nat} (h : AUT w d π) : AUT w d (binv w.1 π) := ⟨ISO.inv rfl rfl h.1, fun e he => by
  obtain ⟨k, _, _, _, hb, _⟩ := hD.bs (show e < dep by omega)
  have := binv_l h.1.bj hb
  rw [h.2 e he] at this
  exact this⟩
/-- it carries each kind of the first rows to itself -/
theorem AUT.rows {w : Wd} {dep d : Nat} (hN : w.1 ≤ 16) (hD : DEP w dep) (hd : d ≤ dep) {π : Nat → Nat} (h : AUT w d π) : (∀ e, e ≤ d → RSP π (RA w e) (RA w e)) ∧ ∀ e, e < dep → e ≤ d → RSP π (SA w e) (SA w e) := by
  have key : ∀ e, e ≤ d → RSP π (RA w e) (RA w e) := by
    intro e
    induction e with
    | zero => intro _; exact one1_RS (by omega) h.1.bj
    | succ e ih =>
      intro he
      obtain ⟨k, hu, k1, t1, tN, k2, t3, hR⟩ := hD.bs (show e < dep by omega)
      obtain ⟨⟨a1, a2, a3, a4⟩, _⟩ := hD.2.1 e (by omega)
      have h2 := a3 π h.1 (ih (by omega))
      rw [hR]
      refine h2.split (fun i z => ?_) rfl k1 (fun i hi => ?_)
      · rw [tb_bit1 (by omega)] at z
        rw [of_decide_eq_true z]; exact t1
      · have hiN := a2.1.1 k i k1 hi
        rw [tb_bit1 (by omega), tb_bit1 (by omega)]
        by_cases q : i = bsA w e
        · rw [decide_eq_true q, q, h.2 e (by omega), decide_eq_true rfl]
        · rw [decide_eq_false q, decide_eq_false (fun z => q (h.1.bj.2 i _ hiN tN (by rw [z, h.2 e (by omega)])))]
  refine ⟨key, fun e he hed => ?_⟩
  obtain ⟨⟨a1, a2, a3, a4⟩, _⟩ := hD.2.1 e he
  exact a3 π h.1 (key e hed)
theorem AUT.last {w : Wd} {dep : Nat} (hN : w.1 ≤ 16) (hD : DEP w dep) {π : Nat → Nat} (h : AUT w dep π) : ∀ p, p < w.1 → π p = p :=
  hD.2.2.2.2 π h.1 ((h.rows hN hD (Nat.le_refl _)).1 dep (Nat.le_refl _))
/-- rows grow finer -/
theorem DEP.fine {w : Wd} {dep : Nat} (hN : w.1 ≤ 16) (hD : DEP w dep) {e : Nat} : ∀ d, d < dep → e < d → RF (RA w (e + 1)) (RA w (e + 1)) (SA w d) (SA w d) ∧ KG w.1 (RA w (e + 1)) := by
  intro d
  induction d with
  | zero => intro _ h; omega
  | succ d ih =>
    intro hd he
    obtain ⟨⟨a1, a2, a3, a4⟩, _⟩ := hD.2.1 (d + 1) hd
    rcases Nat.lt_or_ge e d with q | q
    · obtain ⟨b1, b2⟩ := ih (by omega) q
      obtain ⟨k, hu, k1, t1, tN, k2, t3, hR⟩ := hD.bs (show d < dep by omega)
      have hs : ∀ i, tb (bit1 (bsA w d)) i = true → tb (wl (SA w d) k) i = true := fun i z => by
        rw [tb_bit1 (by omega)] at z
        rw [of_decide_eq_true z]; exact t1
      refine ⟨(b1.tr ?_).tr a4, b2⟩
      rw [hR]
      exact RF.split rfl k1 hs hs
    · have : e = d := by omega
      subst this
      exact ⟨a4, a1.1⟩
/-- what carries each kind of a row to itself keeps the ones told apart before -/
theorem keep_bs {w : Wd} {dep : Nat} (hN : w.1 ≤ 16) (hD : DEP w dep) {d : Nat} (hd : d < dep) {π : Nat → Nat} (h : RSP π (SA w d) (SA w d)) : ∀ e, e < d → π (bsA w e) = bsA w e := fun e he => by
  obtain ⟨b1, b2⟩ := hD.fine hN d hd he
  obtain ⟨⟨a1, a2, a3, a4⟩, _⟩ := hD.2.1 d hd
  obtain ⟨k, hu, k1, t1, tN, k2, t3, hR⟩ := hD.bs (show e < dep by omega)
  have h2 := RSP.of b2 a2.1 b1 h
  rw [hR] at h2
  have h3 := h2 k (bsA w e) (by rw [spl_len]; omega) (by rw [wl_spl k1, if_pos rfl, tb_bit1 (by omega)]; exact decide_eq_true rfl)
  rw [wl_spl k1, if_pos rfl, tb_bit1 (by omega)] at h3
  exact of_decide_eq_true h3
/-- to what a way that keeps the first d carries a point -/
def OB (w : Wd) (d p x : Nat) : Prop := ∃ π, AUT w d π ∧ π p = x
theorem OB.lt {w : Wd} {d p x : Nat} (hp : p < w.1) (h : OB w d p x) : x < w.1 := by
  obtain ⟨π, h1, rfl⟩ := h
  exact h1.1.bj.1 p hp
theorem least_of {P : Nat → Prop} (f : Nat → Nat) (h : ∃ x, P x) : ∃ x, P x ∧ ∀ y, P y → f x ≤ f y := by
  have key : ∀ n x, P x → f x ≤ n → ∃ x, P x ∧ ∀ y, P y → f x ≤ f y := by
    intro n
    induction n with
    | zero => intro x hx hn; exact ⟨x, hx, fun y _ => by omega⟩
    | succ n ih =>
      intro x hx hn
      by_cases c : ∃ y, P y ∧ f y ≤ n
      · obtain ⟨y, h1, h2⟩ := c
        exact ih y h1 h2
      · exact ⟨x, hx, fun y hy => by
          rcases Nat.lt_or_ge n (f y) with q | q
          · omega
          · exact absurd ⟨y, hy, q⟩ c⟩
  obtain ⟨x, hx⟩ := h
  exact key (f x) x hx (Nat.le_refl _)
/-- of the ways with a turning ahead one carries each told apart below the others of its reach -/
theorem min_ex {w : Wd} {dep d : Nat} (hD : DEP w dep) (g : Nat → Nat) : ∀ n, d + n ≤ dep → ∃ h, AUT w d h ∧ ∀ e, d ≤ e → e < d + n → ∀ x, OB w e (bsA w e) x → g (h (bsA w e)) ≤ g (h x) := by
  intro n
  induction n with
  | zero => intro _; exact ⟨_, AUT.id, fun e h1 h2 => by omega⟩
  | succ n ih =>
    intro hn
    obtain ⟨h1, a1, a2⟩ := ih (by omega)
    obtain ⟨x, ⟨h2, b1, b2⟩, b3⟩ := least_of (P := OB w (d + n) (bsA w (d + n))) (fun x => g (h1 x)) ⟨_, _, AUT.id, rfl⟩
    refine ⟨fun p => h1 (h2 p), a1.comp (b1.le (by omega)), fun e e1 e2 y hy => ?_⟩
    obtain ⟨π, c1, c2⟩ := hy
    dsimp only
    rcases Nat.lt_or_ge e (d + n) with q | q
    · rw [b1.2 e q]
      exact a2 e e1 q (h2 y) ⟨fun p => h2 (π p), (b1.le (by omega)).comp c1, by dsimp only; rw [c2]⟩
    · have : e = d + n := by omega
      subst this
      rw [b2]
      exact b3 (h2 y) ⟨fun p => h2 (π p), b1.comp c1, by dsimp only; rw [c2]⟩
section T8M
variable {st : OS} {w : Wd}
/-- classes made one along a way -/
theorem merge_8 {n : Nat} (h0 : st.1 0 = nI n) (hn : n ≤ 16) {π : Nat → Nat} (hπ : ∀ p, p < n → st.2.2.1 11 p = nI (π p) ∧ π p < n) : ∃ c, f_X8_mergeClasses st = some (oA st 12 c) ∧ (∀ i j, i < 16 → j < 16 → st.2.2.1 12 i = st.2.2.1 12 j → c i = c j) ∧ (∀ p, p < n → c p = c (π p)) ∧ ∀ F : Nat → Nat → Prop, (∀ i j, i < n → j < n → st.2.2.1 12 i = st.2.2.1 12 j → F i = F j) → (∀ p, p < n → F p = F (π p)) → ∀ i j, i < n → j < n → c i = c j → F i = F j := by
  have key := lpv_inv (f := f_X8_mergeClasses_2) (fun p z => z.2 = nI p ∧ ∃ c, z.1 = oA st 12 c ∧ (∀ i j, i < 16 → j < 16 → st.2.2.1 12 i = st.2.2.1 12 j → c i = c j) ∧ (∀ q, q < p → c q = c (π q)) ∧ ∀ F : Nat → Nat → Prop, (∀ i j, i < n → j < n → st.2.2.1 12 i = st.2.2.1 12 j → F i = F j) → (∀ p, p < n → F p = F (π p)) → ∀ i j, i < n → j < n → c i = c j → F i = F j) n (fun x => ∃ c, x = oA st 12 c ∧ (∀ i j, i < 16 → j < 16 → st.2.2.1 12 i = st.2.2.1 12 j → c i = c j) ∧ (∀ q, q < n → c q = c (π q)) ∧ ∀ F : Nat → Nat → Prop, (∀ i j, i < n → j < n → st.2.2.1 12 i = st.2.2.1 12 j → F i = F j) → (∀ p, p < n → F p = F (π p)) → ∀ i j, i < n → j < n → c i = c j → F i = F j) (fun p z hp hI => Or.inl ?_) (fun z hI => ?_) 0 (st, 0) (Nat.zero_le _) ⟨rfl, st.2.2.1 12, by
    unfold oA
    refine Prod.ext rfl (Prod.ext rfl (Prod.ext (funext fun z => ?_) rfl))
    by_cases c : z = 12
    · subst c; simp [va_up]
    · simp [va_up, c], fun _ _ _ _ h => h, fun q hq => by omega, fun F h1 _ => h1⟩
  · obtain ⟨x, e1, c, e2, e3⟩ := key
    exact ⟨c, by unfold f_X8_mergeClasses; rw [e1, ob_s, e2], e3⟩
  · obtain ⟨x, b⟩ := z
    obtain ⟨e1, c, e2, e3, e4, e5⟩ := hI
    dsimp only at e1 e2
    subst e1 e2
    obtain ⟨p1, p2⟩ := hπ p hp
    have hst : f_X8_mergeClasses_2 (oA st 12 c, nI p) = if c (π p) = c p then some (.inl (oA st 12 c, nI (p + 1))) else (lpv (f_X8_mergeClasses_58 (nI p) (c (π p))) (oA st 12 c, 0)).bind (fun x30 => some (.inl (x30, nI (p + 1)))) := by
      unfold f_X8_mergeClasses_2
      dsimp only
      rw [oA_1, h0, if_neg (nI_ge hp (by omega)), if_neg (show ¬ (16 : Int32) ≤ nI p from nI_ge (b := 16) (by omega) (by decide)), if_pos (inb_t (by omega) (by omega)), nI_clamp (by omega), oA_ne (j := 11) _ (by decide), p1]
      dsimp only [bnd]
      rw [if_neg (nI_pos (by omega)), if_neg (show ¬ (16 : Int32) ≤ nI (π p) from nI_ge (b := 16) (by omega) (by decide)), if_pos (inb_t (by omega) (by omega)), nI_clamp (by omega), oA_self, nI_1]
    by_cases hc : c (π p) = c p
    · refine ⟨(oA st 12 c, nI (p + 1)), by rw [hst, if_pos hc], rfl, c, rfl, e3, fun q hq => ?_, e5⟩
      rcases Nat.lt_or_ge q p with z | z
      · exact e4 q z
      · rw [show q = p by omega]; exact hc.symm
    · obtain ⟨cq, hcq⟩ : ∃ cq : Nat → Nat → Int32, ∀ q i, cq q i = if i < q ∧ c i = c (π p) then c p else c i := ⟨fun q i => if i < q ∧ c i = c (π p) then c p else c i, fun _ _ => rfl⟩
      have hcp : ∀ q, cq q p = c p := fun q => by rw [hcq, ite_self]
      have hcn : ∀ q, cq q q = c q := fun q => by rw [hcq, if_neg (by omega)]
      have hup : ∀ q, upd (cq q) q (if c q = c (π p) then c p else c q) = cq (q + 1) := fun q => by
        funext i
        unfold upd
        by_cases b : i = q
        · rw [if_pos b, b, hcq]
          by_cases a : c q = c (π p)
          · rw [if_pos a, if_pos ⟨by omega, a⟩]
          · rw [if_neg a, if_neg (fun z => a z.2)]
        · rw [if_neg b, hcq, hcq]
          by_cases d : c i = c (π p)
          · by_cases e : i < q
            · rw [if_pos ⟨e, d⟩, if_pos ⟨by omega, d⟩]
            · rw [if_neg (fun z => e z.1), if_neg (fun z => by omega)]
          · rw [if_neg (fun z => d z.2), if_neg (fun z => d z.2)]
      have inner := lpv_for (f := f_X8_mergeClasses_58 (nI p) (c (π p))) (fun q => (oA st 12 (cq q), nI q)) 16 (r := oA st 12 (cq 16)) (fun q hq => ?_) ?_ 0 (Nat.zero_le _)
      · have e0 : cq 0 = c := funext fun i => by rw [hcq, if_neg (by omega)]
        rw [e0, show nI 0 = (0 : Int32) from rfl] at inner
        have hd : ∀ i, i < 16 → cq 16 i = if c i = c (π p) then c p else c i := fun i hi => by
          rw [hcq]
          by_cases q : c i = c (π p)
          · rw [if_pos ⟨hi, q⟩, if_pos q]
          · rw [if_neg (fun z => q z.2), if_neg q]
        refine ⟨(oA st 12 (cq 16), nI (p + 1)), by rw [hst, if_neg hc, inner, ob_s], rfl, _, rfl, fun i j hi hj h => ?_, fun q hq => ?_, fun F f1 f2 i j hi hj h => ?_⟩
        · rw [hd i hi, hd j hj, e3 i j hi hj h]
        · have hqn : q < n := by omega
          have hπq := (hπ q hqn).2
          rw [hd q (by omega), hd (π q) (by omega)]
          rcases Nat.lt_or_ge q p with z | z
          · rw [e4 q z]
          · rw [show q = p by omega, if_pos rfl, if_neg (fun z => hc z.symm)]
        · rw [hd i (by omega), hd j (by omega)] at h
          have g := e5 F f1 f2
          have gp : F p = F (π p) := f2 p hp
          by_cases a : c i = c (π p) <;> by_cases b : c j = c (π p)
          · exact g i j hi hj (a.trans b.symm)
          · rw [if_pos a, if_neg b] at h
            rw [g i (π p) hi p2 a, ← gp]
            exact g p j hp hj h
          · rw [if_neg a, if_pos b] at h
            rw [g j (π p) hj p2 b, ← gp]
            exact g i p hi hp h
          · rw [if_neg a, if_neg b] at h
            exact g i j hi hj h
      · unfold f_X8_mergeClasses_58
        dsimp only
        have h9 := hup q
        rw [if_neg (show ¬ (16 : Int32) ≤ nI q from nI_ge (b := 16) hq (by decide)), if_pos (inb_t hq (by omega)), nI_clamp (by omega), oA_self, hcn]
        by_cases a : c q = c (π p)
        · rw [if_pos a] at h9
          rw [if_pos a, if_pos (inb_t (by omega) (by omega)), nI_clamp (by omega), hcp]
          dsimp only [bnd]
          rw [oA_same, nI_1, h9]
        · rw [if_neg a] at h9
          rw [if_neg a]
          dsimp only [bnd]
          rw [oA_same, nI_1, h9]
      · unfold f_X8_mergeClasses_58
        dsimp only
        rw [if_pos (show (16 : Int32) ≤ nI 16 from nI_le (Nat.le_refl 16) (by decide))]
  · obtain ⟨x, b⟩ := z
    obtain ⟨e1, c, e2, e3, e4, e5⟩ := hI
    dsimp only at e1 e2
    subst e1 e2
    refine ⟨oA st 12 c, ?_, c, rfl, e3, e4, e5⟩
    unfold f_X8_mergeClasses_2
    dsimp only
    rw [oA_1, h0, if_pos (nI_le (Nat.le_refl _) (by omega))]
end T8M
