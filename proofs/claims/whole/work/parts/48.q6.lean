/-! questions: codes -/
def xorT (f : Nat → Int64) : Nat → Int64
  | 0 => 0
  | n + 1 => xorT f n ^^^ f n
theorem x0 (a : Int64) : a ^^^ 0 = a := tb_ext (fun i _ => by rw [tb_xor, tb_0, Bool.xor_false])
theorem x00 (a : Int64) : 0 ^^^ a = a := tb_ext (fun i _ => by rw [tb_xor, tb_0, Bool.false_xor])
theorem xaa (a : Int64) : a ^^^ a = 0 := tb_ext (fun i _ => by rw [tb_xor, tb_0, Bool.xor_self])
theorem xas (a b c : Int64) : a ^^^ b ^^^ c = a ^^^ (b ^^^ c) := tb_ext (fun i _ => by simp only [tb_xor, Bool.xor_assoc])
theorem xcm (a b : Int64) : a ^^^ b = b ^^^ a := tb_ext (fun i _ => by simp only [tb_xor, Bool.xor_comm])
theorem xorT_cong {f g : Nat → Int64} : ∀ {n : Nat}, (∀ i, i < n → f i = g i) → xorT f n = xorT g n := by
  intro n
  induction n with
  | zero => intro _; rfl
  | succ n ih => intro h; simp only [xorT]; rw [ih (fun i hi => h i (by omega)), h n (by omega)]
theorem xorT_upd (f g : Nat → Int64) {k : Nat} : ∀ {n : Nat}, k < n → (∀ i, i < n → i ≠ k → f i = g i) → xorT f n = xorT g n ^^^ (g k ^^^ f k) := by
  intro n
  induction n with
  | zero => intro h; omega
  | succ n ih =>
    intro h hfg
    simp only [xorT]
    rcases Nat.lt_or_ge k n with q | q
    · rw [ih q (fun i hi hk => hfg i (by omega) hk), hfg n (by omega) (by omega)]
      refine tb_ext (fun i _ => ?_)
      simp only [tb_xor]
      cases tb (xorT g n) i <;> cases tb (g k) i <;> cases tb (f k) i <;> cases tb (g n) i <;> rfl
    · have : k = n := by omega
      subst this
      rw [xorT_cong (fun i hi => hfg i (by omega) (by omega))]
      refine tb_ext (fun i _ => ?_)
      simp only [tb_xor]
      cases tb (xorT g k) i <;> cases tb (g k) i <;> cases tb (f k) i <;> rfl
theorem tb_xorT0 {f : Nat → Int64} {c : Nat} : ∀ {n : Nat}, (∀ i, i < n → tb (f i) c = false) → tb (xorT f n) c = false := by
  intro n
  induction n with
  | zero => intro _; exact tb_0 c
  | succ n ih => intro h; simp only [xorT]; rw [tb_xor, ih (fun i hi => h i (by omega)), h n (by omega)]; rfl
/-- rows by the points that tell them -/
def RI (N : Nat) (R : Nat → Int64) : Prop := (∀ c, R c ≠ 0 → tb (R c) c = true ∧ c < N ∧ low (R c) = c ∧ (∀ i, tb (R c) i = true → i < N)) ∧ ∀ c d, R c ≠ 0 → R d ≠ 0 → d ≠ c → tb (R d) c = false
/-- what is left of a set -/
def rdc (R : Nat → Int64) (e : Int64) : Int64 := e ^^^ xorT (fun c => if tb e c = true then R c else 0) 64
/-- one row more -/
def rAdd (R : Nat → Int64) (x : Int64) : Nat → Int64 := fun c => if c = low x then x else if tb (R c) (low x) = true then R c ^^^ x else R c
section RDC
variable {N : Nat} {R : Nat → Int64}
theorem RI.lt64 (h : RI N R) {c : Nat} (hc : R c ≠ 0) : c < 64 := tb_lt (h.1 c hc).1
theorem RI.step (h : RI N R) (e : Int64) {c : Nat} : tb (xorT (fun c => if tb e c = true then R c else 0) c) c = true → R c = 0 := by
  intro z
  false_or_by_contra
  rename_i hc
  have : tb (xorT (fun c => if tb e c = true then R c else 0) c) c = false := tb_xorT0 (fun i hi => by
    by_cases hb : tb e i = true
    · rw [if_pos hb]
      by_cases hz : R i = 0
      · rw [hz, tb_0]
      · exact h.2 c i hc hz (by omega)
    · rw [if_neg hb, tb_0])
  rw [this] at z
  cases z
theorem rdc_lead (h : RI N R) (e : Int64) {c : Nat} (hc : R c ≠ 0) : tb (rdc R e) c = false := by
  have h1 := (h.1 c hc).1
  have hlt := h.lt64 hc
  unfold rdc
  rw [tb_xor, xorT_upd (fun c => if tb e c = true then R c else 0) (fun i => if i = c then 0 else if tb e i = true then R i else 0) hlt (fun i _ hi => by rw [if_neg hi]), tb_xor, tb_xorT0 (fun i hi => by
    by_cases q : i = c
    · rw [if_pos q, tb_0]
    · rw [if_neg q]
      by_cases hb : tb e i = true
      · rw [if_pos hb]
        by_cases hz : R i = 0
        · rw [hz, tb_0]
        · exact h.2 c i hc hz q
      · rw [if_neg hb, tb_0])]
  rw [if_pos rfl, x00]
  by_cases hb : tb e c = true
  · rw [if_pos hb, h1, hb]; rfl
  · rw [if_neg hb, tb_0, eq_false_of_ne_true hb]; rfl
theorem rdc_lt (h : RI N R) {e : Int64} (he : ∀ i, tb e i = true → i < N) : ∀ i, tb (rdc R e) i = true → i < N := by
  intro i hi
  false_or_by_contra
  rename_i hn
  unfold rdc at hi
  rw [tb_xor, tb_xorT0 (fun c _ => by
    by_cases hb : tb e c = true
    · rw [if_pos hb]
      by_cases hz : R c = 0
      · rw [hz, tb_0]
      · exact eq_false_of_ne_true (fun z => hn ((h.1 c hz).2.2.2 i z))
    · rw [if_neg hb, tb_0]), eq_false_of_ne_true (fun z => hn (he i z))] at hi
  cases hi
theorem rAdd_ne (h : RI N R) {x : Int64} (hx : x ≠ 0) (hl : ∀ c, R c ≠ 0 → tb x c = false) : ∀ c, rAdd R x c ≠ 0 ↔ (c = low x ∨ R c ≠ 0) := by
  intro c
  unfold rAdd
  by_cases q : c = low x
  · rw [if_pos q]
    exact ⟨fun _ => Or.inl q, fun _ => hx⟩
  · rw [if_neg q]
    by_cases hb : tb (R c) (low x) = true
    · rw [if_pos hb]
      have hz : R c ≠ 0 := fun z => by rw [z, tb_0] at hb; cases hb
      refine ⟨fun _ => Or.inr hz, fun _ z => ?_⟩
      have : tb (R c ^^^ x) c = true := by rw [tb_xor, (h.1 c hz).1, hl c hz]; rfl
      rw [z, tb_0] at this
      cases this
    · rw [if_neg hb]
      exact ⟨fun z => Or.inr z, fun z => z.resolve_left q⟩
theorem low_ne (h : RI N R) {x : Int64} (hx : x ≠ 0) (hl : ∀ c, R c ≠ 0 → tb x c = false) : R (low x) = 0 := by
  false_or_by_contra
  rename_i hz
  have := hl _ hz
  rw [(low_tb hx).1] at this
  cases this
theorem RI.add (h : RI N R) {x : Int64} (hx : x ≠ 0) (hl : ∀ c, R c ≠ 0 → tb x c = false) (hN : ∀ i, tb x i = true → i < N) : RI N (rAdd R x) := by
  have hne := rAdd_ne h hx hl
  obtain ⟨l1, l2, l3⟩ := low_tb hx
  have h0 := low_ne h hx hl
  refine ⟨fun c hc => ?_, fun c d hc hd hdc => ?_⟩
  · unfold rAdd
    by_cases q : c = low x
    · rw [if_pos q, q]
      exact ⟨l1, hN _ l1, rfl, hN⟩
    · have hz : R c ≠ 0 := ((hne c).mp hc).resolve_left q
      rw [if_neg q]
      obtain ⟨g1, g2, g3, g4⟩ := h.1 c hz
      by_cases hb : tb (R c) (low x) = true
      · rw [if_pos hb]
        have hcl : c < low x := by
          rcases Nat.lt_or_ge (low x) c with y | y
          · have := (low_tb hz).2.2 (low x) (by rw [g3]; exact y)
            rw [hb] at this
            cases this
          · omega
        have e1 : tb (R c ^^^ x) c = true := by rw [tb_xor, g1, hl c hz]; rfl
        refine ⟨e1, g2, low_eq e1 (fun j hj => ?_), fun i hi => ?_⟩
        · rw [tb_xor, (low_tb hz).2.2 j (by rw [g3]; exact hj), l3 j (by omega)]
          rfl
        · rw [tb_xor] at hi
          cases hi1 : tb (R c) i with
          | true => exact g4 i hi1
          | false =>
            rw [hi1] at hi
            exact hN i (by simpa using hi)
      · rw [if_neg hb]
        exact ⟨g1, g2, g3, g4⟩
  · unfold rAdd
    by_cases q : d = low x
    · rw [if_pos q]
      exact hl c (((hne c).mp hc).resolve_left (fun z => hdc (q.trans z.symm)))
    · rw [if_neg q]
      have hzd : R d ≠ 0 := ((hne d).mp hd).resolve_left q
      by_cases qc : c = low x
      · rw [qc]
        by_cases hb : tb (R d) (low x) = true
        · rw [if_pos hb, tb_xor, hb, l1]; rfl
        · rw [if_neg hb]; exact eq_false_of_ne_true hb
      · have hzc : R c ≠ 0 := ((hne c).mp hc).resolve_left qc
        by_cases hb : tb (R d) (low x) = true
        · rw [if_pos hb, tb_xor, h.2 c d hzc hzd hdc, hl c hzc]; rfl
        · rw [if_neg hb]; exact h.2 c d hzc hzd hdc
def ldn (R : Nat → Int64) : Nat := cnt (fun c => decide (R c ≠ 0)) 64
theorem ldn_add (h : RI N R) {x : Int64} (hx : x ≠ 0) (hl : ∀ c, R c ≠ 0 → tb x c = false) : ldn (rAdd R x) = ldn R + 1 := by
  have hne := rAdd_ne h hx hl
  have h0 := low_ne h hx hl
  unfold ldn
  rw [← cnt_del (p := fun c => decide (rAdd R x c ≠ 0)) (k := low x) (decide_eq_true ((hne _).mpr (Or.inl rfl))) (low_tb hx).2.1]
  congr 1
  refine cnt_cong (fun c _ => ?_)
  by_cases q : c = low x
  · rw [q, h0]
    simp
  · have : (rAdd R x c ≠ 0) ↔ (R c ≠ 0) := ⟨fun z => ((hne c).mp z).resolve_left q, fun z => (hne c).mpr (Or.inr z)⟩
    simp [this, q]
end RDC
/-- the rows after all lines -/
def rowsF (l : List Int64) : Nat → Nat → Int64
  | 0 => fun _ => 0
  | i + 1 => if rdc (rowsF l i) (wl l i) = 0 then rowsF l i else rAdd (rowsF l i) (rdc (rowsF l i) (wl l i))
theorem rowsF_RI {w : Wd} (hW : WFw w) (hn : w.1 ≤ 64) : ∀ i, i ≤ w.2.length → RI w.1 (rowsF w.2 i) := by
  intro i
  induction i with
  | zero => intro _; exact ⟨fun c hc => absurd rfl hc, fun c d hc => absurd rfl hc⟩
  | succ i ih =>
    intro hi
    have h := ih (by omega)
    simp only [rowsF]
    split
    · exact h
    · rename_i hx
      exact h.add hx (fun c hc => rdc_lead h _ hc) (rdc_lt h (fun j hj => hW.pt hn (by omega) hj))
section RED
variable {st stn : OS} {w : Wd}
theorem red_in {y : OS} {R : Nat → Int64} {N : Nat} (hR : RI N R) (hy : ∀ c, c < 64 → y.2.2.2 1 c = R c) (b2 b3 : Int32) (e : Int64) : lpv (f_X4_reduce_30 y stn b2 b3) (e, 0) = some (rdc R e) := by
  have key := lpv_for (f := f_X4_reduce_30 y stn b2 b3) (fun i => (e ^^^ xorT (fun c => if tb e c = true then R c else 0) i, nI i)) 64 (r := rdc R e) (fun i hi => ?_) ?_ 0 (Nat.zero_le _)
  · rw [show e ^^^ xorT (fun c => if tb e c = true then R c else 0) 0 = e from x0 e] at key
    exact key
  · unfold f_X4_reduce_30
    dsimp only
    rw [if_neg (show ¬ (64 : Int32) ≤ nI i from nI_ge (b := 64) hi (by decide)), has_10 hi, ob_s, if_pos (inb_t hi (by omega)), nI_clamp (by omega), hy i hi, tb_xor]
    simp only [bnd, nI_1, xorT]
    cases hx : tb (xorT (fun c => if tb e c = true then R c else 0) i) i with
    | true =>
      have hz := hR.step e hx
      rw [hz, x0, ite_self, ite_self, x0]
    | false =>
      rw [Bool.xor_false]
      cases hb : tb e i with
      | true => rw [if_neg b2t, if_pos rfl, xas]
      | false => rw [if_pos b2f, if_neg (by decide), x0]
  · unfold f_X4_reduce_30
    dsimp only
    rw [if_pos (show (64 : Int32) ≤ nI 64 from nI_le (a := 64) (by omega) (by decide))]
    rfl
theorem red_upd {y : OS} {R : Nat → Int64} (hy : ∀ c, c < 64 → y.2.2.2 1 c = R c) (b2 b3 : Int32) {x : Int64} (hx : x ≠ 0) : ∃ v, lpv (f_X4_reduce_92 stn b2 b3 x (nI (low x))) (y, 0) = some v ∧ ∀ c, c < 64 → v.2.2.2 1 c = if tb (R c) (low x) = true then R c ^^^ x else R c := by
  have hl := (low_tb hx).2.1
  refine lpv_inv (f := f_X4_reduce_92 stn b2 b3 x (nI (low x))) (fun i z => z.2 = nI i ∧ ∀ c, c < 64 → z.1.2.2.2 1 c = if c < i then (if tb (R c) (low x) = true then R c ^^^ x else R c) else R c) 64 _ (fun i z hi hI => Or.inl ?_) (fun z hI => ?_) 0 (y, 0) (Nat.zero_le _) ⟨rfl, fun c hc => by rw [if_neg (by omega)]; exact hy c hc⟩
  · obtain ⟨v, b⟩ := z
    obtain ⟨e1, e2⟩ := hI
    dsimp only at e1 e2
    subst e1
    have hi2 := e2 i hi
    rw [if_neg (by omega)] at hi2
    refine ⟨(oB v 1 (vp_updL (v.2.2.2 1) i (if tb (R i) (low x) = true then R i ^^^ x else R i)), nI (i + 1)), ?_, rfl, fun c hc => ?_⟩
    · unfold f_X4_reduce_92
      dsimp only
      rw [if_neg (show ¬ (64 : Int32) ≤ nI i from nI_ge (b := 64) hi (by decide)), if_pos (inb_t hi (by omega)), nI_clamp (by omega), hi2, has_10 hl, ob_s]
      simp only [bnd, nI_1]
      cases tb (R i) (low x) with
      | true => rw [if_neg b2t]; rfl
      | false => rw [if_pos b2f]; rfl
    · dsimp only
      rw [oB_self]
      unfold vp_updL
      by_cases q : c = i
      · rw [if_pos q, if_pos (show c < i + 1 by omega), q]
      · rw [if_neg q, e2 c hc]
        by_cases q2 : c < i
        · rw [if_pos q2, if_pos (show c < i + 1 by omega)]
        · rw [if_neg q2, if_neg (show ¬ c < i + 1 by omega)]
  · obtain ⟨v, b⟩ := z
    obtain ⟨e1, e2⟩ := hI
    dsimp only at e1 e2
    subst e1
    refine ⟨v, ?_, fun c hc => by rw [e2 c hc, if_pos hc]⟩
    unfold f_X4_reduce_92
    dsimp only
    rw [if_pos (show (64 : Int32) ≤ nI 64 from nI_le (a := 64) (by omega) (by decide))]
theorem reduce_4 (hw : CW stn w) (hW : WFw w) (y : OS) : ∃ x, f_X4_reduce y stn = some (nI (ldn (rowsF w.2 w.2.length)), x) ∧ ∀ c, c < 64 → x.2.2.2 1 c = rowsF w.2 w.2.length c := by
  have hl := hw.1.2.2.2.1
  have hn := hw.1.2.2.1
  have key := lpv_inv (f := f_X4_reduce_12 stn) (fun i z => z.2.2 = nI i ∧ z.2.1 = nI (ldn (rowsF w.2 i)) ∧ ∀ c, c < 64 → z.1.2.2.2 1 c = rowsF w.2 i c) w.2.length (fun r => r.2 = nI (ldn (rowsF w.2 w.2.length)) ∧ ∀ c, c < 64 → r.1.2.2.2 1 c = rowsF w.2 w.2.length c) (fun i z hi hI => Or.inl ?_) (fun z hI => ?_) 0 (oB y 1 (fillF 64 0 (y.2.2.2 1)), 0, 0) (Nat.zero_le _) ⟨rfl, by
      have : ldn (rowsF w.2 0) = 0 := cnt_0.mpr (fun i _ => by simp [rowsF])
      rw [this]; rfl, fun c hc => by
      dsimp only
      rw [oB_self]
      show (if c < 64 then _ else _) = _
      rw [if_pos hc]
      rfl⟩
  · obtain ⟨⟨x, v⟩, e, h1, h2⟩ := key
    have h1 : v = _ := h1
    subst h1
    refine ⟨x, ?_, h2⟩
    unfold f_X4_reduce
    dsimp only [bnd]
    rw [e, ob_s]
  · obtain ⟨x, b, c⟩ := z
    obtain ⟨e1, e2, e3⟩ := hI
    dsimp only at e1 e2 e3
    subst e1 e2
    have hR := rowsF_RI hW hn i (by omega)
    unfold f_X4_reduce_12
    dsimp only
    rw [hw.1.2.1, if_neg (nI_ge hi (by omega)), setAt_10 hw.1 hi, ob_s, red_in hR e3, ob_s, lowest_10, ob_s]
    by_cases hx : rdc (rowsF w.2 i) (wl w.2 i) = 0
    · rw [if_pos hx, if_pos m1_lt]
      have e : rowsF w.2 (i + 1) = rowsF w.2 i := by simp only [rowsF, if_pos hx]
      refine ⟨(x, nI (ldn (rowsF w.2 i)), nI (i + 1)), by simp only [bnd, nI_1], rfl, ?_, ?_⟩
      · dsimp only; rw [e]
      · dsimp only; rw [e]; exact e3
    · have hlo := (low_tb hx).2.1
      have hlead := fun c (hc : rowsF w.2 i c ≠ 0) => rdc_lead hR (wl w.2 i) hc
      have e : rowsF w.2 (i + 1) = rAdd (rowsF w.2 i) (rdc (rowsF w.2 i) (wl w.2 i)) := by simp only [rowsF, if_neg hx]
      obtain ⟨v, g1, g2⟩ := red_upd (stn := stn) e3 (nI (ldn (rowsF w.2 i))) (nI i) hx
      rw [if_neg hx, if_neg (nI_pos (by omega)), if_neg (show ¬ (64 : Int32) ≤ nI (low _) from nI_ge (b := 64) hlo (by decide)), g1, ob_s, if_pos (inb_t hlo (by omega)), nI_clamp (by omega)]
      refine ⟨(oB v 1 (vp_updL (v.2.2.2 1) (low (rdc (rowsF w.2 i) (wl w.2 i))) (rdc (rowsF w.2 i) (wl w.2 i))), nI (ldn (rowsF w.2 i) + 1), nI (i + 1)), by simp only [bnd, nI_1], rfl, ?_, ?_⟩
      · dsimp only
        rw [e, ldn_add hR hx hlead]
      · dsimp only
        rw [e, oB_self]
        intro c hc
        unfold vp_updL rAdd
        by_cases q : c = low (rdc (rowsF w.2 i) (wl w.2 i))
        · rw [if_pos q, if_pos q]
        · rw [if_neg q, if_neg q]
          exact g2 c hc
  · obtain ⟨x, b, c⟩ := z
    obtain ⟨e1, e2, e3⟩ := hI
    dsimp only at e1 e2 e3
    subst e1 e2
    refine ⟨(x, nI (ldn (rowsF w.2 w.2.length))), ?_, rfl, e3⟩
    unfold f_X4_reduce_12
    dsimp only
    rw [hw.1.2.1, if_pos (nI_le (Nat.le_refl _) (by omega))]
end RED

/-! the reference's equations -/
section EQR
variable {st : OS} {w : Wd}
/-- the equations of the reference, by the rows -/
def EQ (y : OS) (R : Nat → Int64) (n : Nat) (t : Nat → Nat) : Prop := (∀ k, k < n → R (t k) ≠ 0 ∧ y.2.2.1 33 k = nI (t k) ∧ y.2.2.2 31 k = R (t k)) ∧ (∀ c, R c ≠ 0 → ∃ k, k < n ∧ t k = c) ∧ (∀ j k, j < n → k < n → t j = t k → j = k) ∧ n = ldn R ∧ ∀ g : Nat → Int64, (∀ c, R c = 0 → g c = 0) → xorT (fun k => g (t k)) n = xorT g 64
theorem ldn_le {N : Nat} {R : Nat → Int64} (h : RI N R) (hN : N ≤ 64) : ldn R ≤ N := by
  unfold ldn
  rw [cnt_out hN (fun i h1 h2 => decide_eq_false (fun z => by have := (h.1 i z).2.1; omega))]
  exact cnt_le _ _
theorem eq_in {y : OS} {R : Nat → Int64} {N n : Nat} {t : Nat → Nat} (hR : RI N R) (hN : N ≤ 64) (hE : EQ y R n t) (b2 : Int32) (e : Int64) : lpv (f_X12_equate_22 y (nI n) b2) (e, 0) = some (rdc R e) := by
  have hn64 : n ≤ 64 := by have := ldn_le hR hN; rw [hE.2.2.2.1]; omega
  have key := lpv_for (f := f_X12_equate_22 y (nI n) b2) (fun i => (e ^^^ xorT (fun k => if tb e (t k) = true then R (t k) else 0) i, nI i)) n (r := rdc R e) (fun i hi => ?_) ?_ 0 (Nat.zero_le _)
  · rw [show e ^^^ xorT (fun k => if tb e (t k) = true then R (t k) else 0) 0 = e from x0 e] at key
    exact key
  · obtain ⟨g1, g2, g3⟩ := hE.1 i hi
    have hlt := hR.lt64 g1
    have h0 : tb (xorT (fun k => if tb e (t k) = true then R (t k) else 0) i) (t i) = false := tb_xorT0 (fun k hk => by
      by_cases hb : tb e (t k) = true
      · rw [if_pos hb]
        exact hR.2 _ _ g1 (hE.1 k (by omega)).1 (fun z => by have := hE.2.2.1 k i (by omega) hi z; omega)
      · rw [if_neg hb, tb_0])
    unfold f_X12_equate_22
    dsimp only
    rw [if_neg (nI_ge hi (by omega)), if_pos (inb_t (by omega) (by omega)), nI_clamp (by omega), g2, g3, has_12 hlt, ob_s, tb_xor, h0, Bool.xor_false]
    simp only [bnd, nI_1, xorT]
    cases hb : tb e (t i) with
    | true => rw [if_neg b2t, if_pos rfl, xas]
    | false => rw [if_pos b2f, if_neg (by decide), x0]
  · unfold f_X12_equate_22
    dsimp only
    rw [if_pos (nI_le (Nat.le_refl _) (by omega))]
    unfold rdc
    rw [hE.2.2.2.2 (fun c => if tb e c = true then R c else 0) (fun c hc => by rw [hc, ite_self])]
theorem eq_low {y : OS} (b1 b2 : Int32) {x : Int64} (hx : x ≠ 0) : lpv (f_X12_equate_70 y b1 b2 x) 0 = some (nI (low x)) := by
  obtain ⟨l1, l2, l3⟩ := low_tb hx
  exact lpv_for (f := f_X12_equate_70 y b1 b2 x) (fun i => nI i) (low x) (fun i hi => by
    unfold f_X12_equate_70
    rw [has_12 (by omega), ob_s, l3 i hi, if_pos b2f]
    simp only [bnd, nI_1]) (by
    unfold f_X12_equate_70
    rw [has_12 l2, ob_s, l1, if_neg b2t]) 0 (Nat.zero_le _)
theorem eq_upd {y : OS} {R : Nat → Int64} {N n : Nat} {t : Nat → Nat} (hR : RI N R) (hN : N ≤ 64) (hE : EQ y R n t) (b2 : Int32) {x : Int64} (hx : x ≠ 0) : ∃ v, lpv (f_X12_equate_88 (nI n) b2 x (nI (low x))) (y, 0) = some v ∧ Keep (inL [0, 1, 2, 5, 13, 14, 44, 45]) (inL [4, 33, 40, 41, 42, 43, 46, 47, 49, 50, 51]) (inL [3, 38, 39, 48, 52]) y v ∧ ∀ k, k < n → v.2.2.2 31 k = if tb (R (t k)) (low x) = true then R (t k) ^^^ x else R (t k) := by
  have hn64 : n ≤ 64 := by have := ldn_le hR hN; rw [hE.2.2.2.1]; omega
  have hl := (low_tb hx).2.1
  refine lpv_inv (f := f_X12_equate_88 (nI n) b2 x (nI (low x))) (fun i z => z.2 = nI i ∧ Keep (inL [0, 1, 2, 5, 13, 14, 44, 45]) (inL [4, 33, 40, 41, 42, 43, 46, 47, 49, 50, 51]) (inL [3, 38, 39, 48, 52]) y z.1 ∧ ∀ k, k < n → z.1.2.2.2 31 k = if k < i then (if tb (R (t k)) (low x) = true then R (t k) ^^^ x else R (t k)) else R (t k)) n _ (fun i z hi hI => Or.inl ?_) (fun z hI => ?_) 0 (y, 0) (Nat.zero_le _) ⟨rfl, Keep.rf, fun k hk => by rw [if_neg (by omega)]; exact (hE.1 k hk).2.2⟩
  · obtain ⟨v, b⟩ := z
    obtain ⟨e1, e2, e3⟩ := hI
    dsimp only at e1 e2 e3
    subst e1
    have hi2 := e3 i hi
    rw [if_neg (by omega)] at hi2
    cases hb : tb (R (t i)) (low x) with
    | false =>
      refine ⟨(v, nI (i + 1)), ?_, rfl, e2, fun k hk => ?_⟩
      · unfold f_X12_equate_88
        dsimp only
        rw [if_neg (nI_ge hi (by omega)), if_pos (inb_t (by omega) (by omega)), nI_clamp (by omega), hi2, has_12 hl, ob_s, hb, if_pos b2f]
        simp only [bnd, nI_1]
      · dsimp only
        rw [e3 k hk]
        by_cases q : k < i
        · rw [if_pos q, if_pos (show k < i + 1 by omega)]
        · rw [if_neg q]
          by_cases q2 : k = i
          · rw [if_pos (show k < i + 1 by omega), q2, hb, if_neg (by decide)]
          · rw [if_neg (show ¬ k < i + 1 by omega)]
    | true =>
      refine ⟨(oB v 31 (vp_updL (v.2.2.2 31) i (R (t i) ^^^ x)), nI (i + 1)), ?_, rfl, Keep.oB e2 rfl, fun k hk => ?_⟩
      · unfold f_X12_equate_88
        dsimp only
        rw [if_neg (nI_ge hi (by omega)), if_pos (inb_t (by omega) (by omega)), nI_clamp (by omega), hi2, has_12 hl, ob_s, hb, if_neg b2t]
        simp only [bnd, nI_1]
      · dsimp only
        rw [oB_self]
        unfold vp_updL
        by_cases q2 : k = i
        · rw [if_pos q2, if_pos (show k < i + 1 by omega), q2, hb, if_pos rfl]
        · rw [if_neg q2, e3 k hk]
          by_cases q : k < i
          · rw [if_pos q, if_pos (show k < i + 1 by omega)]
          · rw [if_neg q, if_neg (show ¬ k < i + 1 by omega)]
  · obtain ⟨v, b⟩ := z
    obtain ⟨e1, e2, e3⟩ := hI
    dsimp only at e1 e2 e3
    subst e1
    refine ⟨v, ?_, e2, fun k hk => by rw [e3 k hk, if_pos hk]⟩
    unfold f_X12_equate_88
    dsimp only
    rw [if_pos (nI_le (Nat.le_refl _) (by omega))]
theorem EQ.add {y v : OS} {R : Nat → Int64} {N n : Nat} {t : Nat → Nat} (hR : RI N R) (hE : EQ y R n t) {x : Int64} (hx : x ≠ 0) (hl : ∀ c, R c ≠ 0 → tb x c = false) (h33 : ∀ k, k < n → v.2.2.1 33 k = y.2.2.1 33 k) (h33n : v.2.2.1 33 n = nI (low x)) (h31 : ∀ k, k < n → v.2.2.2 31 k = if tb (R (t k)) (low x) = true then R (t k) ^^^ x else R (t k)) (h31n : v.2.2.2 31 n = x) : EQ v (rAdd R x) (n + 1) (fun k => if k = n then low x else t k) := by
  have hne := rAdd_ne hR hx hl
  have h0 := low_ne hR hx hl
  have ht : ∀ k, k < n → t k ≠ low x := fun k hk z => (hE.1 k hk).1 (by rw [z]; exact h0)
  refine ⟨fun k hk => ?_, fun c hc => ?_, fun j k hj hk e => ?_, ?_, fun g hg => ?_⟩
  · by_cases q : k = n
    · dsimp only
      rw [if_pos q, q]
      exact ⟨(hne _).mpr (Or.inl rfl), h33n, by rw [h31n]; unfold rAdd; rw [if_pos rfl]⟩
    · dsimp only
      rw [if_neg q]
      have hk2 : k < n := by omega
      refine ⟨(hne _).mpr (Or.inr (hE.1 k hk2).1), (h33 k hk2).trans (hE.1 k hk2).2.1, ?_⟩
      rw [h31 k hk2]
      unfold rAdd
      rw [if_neg (ht k hk2)]
  · rcases (hne c).mp hc with q | q
    · exact ⟨n, by omega, by dsimp only; rw [if_pos rfl, q]⟩
    · obtain ⟨k, hk, e⟩ := hE.2.1 c q
      exact ⟨k, by omega, by dsimp only; rw [if_neg (show ¬ k = n by omega)]; exact e⟩
  · by_cases q1 : j = n <;> by_cases q2 : k = n
    · omega
    · dsimp only at e
      rw [if_pos q1, if_neg q2] at e
      exact absurd e.symm (ht k (by omega))
    · dsimp only at e
      rw [if_neg q1, if_pos q2] at e
      exact absurd e (ht j (by omega))
    · dsimp only at e
      rw [if_neg q1, if_neg q2] at e
      exact hE.2.2.1 j k (by omega) (by omega) e
  · rw [ldn_add hR hx hl, ← hE.2.2.2.1]
  · show xorT _ n ^^^ g (if n = n then low x else t n) = _
    rw [if_pos rfl, xorT_cong (g := fun k => (fun c => if c = low x then 0 else g c) (t k)) (fun k hk => by
      dsimp only
      rw [if_neg (show ¬ k = n by omega), if_neg (ht k hk)]), hE.2.2.2.2 (fun c => if c = low x then 0 else g c) (fun c hc => by
      by_cases q : c = low x
      · rw [if_pos q]
      · rw [if_neg q]
        refine hg c ?_
        false_or_by_contra
        rename_i hz
        exact ((hne c).mp hz).elim q (fun z => z hc)), xorT_upd (fun c => if c = low x then 0 else g c) g (low_tb hx).2.1 (fun i _ hi => if_neg hi)]
    rw [if_pos rfl, x0, xas, xaa, x0]
theorem equate_12 (hW : WFw w) (h : RWo st w.1 w.2) : ∃ x t, f_X12_equate st = some (nI (ldn (rowsF w.2 w.2.length)), x) ∧ Kp st x ∧ EQ x (rowsF w.2 w.2.length) (ldn (rowsF w.2 w.2.length)) t := by
  have hl := h.2.2.2.1
  have hn := h.2.2.1
  have key := lpv_inv (f := f_X12_equate_4) (fun i z => z.2.2 = nI i ∧ Kp st z.1 ∧ ∃ n t, z.2.1 = nI n ∧ EQ z.1 (rowsF w.2 i) n t) w.2.length (fun r => Kp st r.1 ∧ ∃ n t, r.2 = nI n ∧ EQ r.1 (rowsF w.2 w.2.length) n t) (fun i z hi hI => Or.inl ?_) (fun z hI => ?_) 0 (st, 0, 0) (Nat.zero_le _) ⟨rfl, Keep.rf, 0, fun _ => 0, rfl, fun k hk => by omega, fun c hc => absurd rfl hc, fun j k hj => by omega, (cnt_0.mpr (fun i _ => by simp [rowsF])).symm, fun g hg => by
    have : ∀ n, xorT g n = 0 := fun n => by
      induction n with
      | zero => rfl
      | succ n ih => simp only [xorT]; rw [ih, hg n rfl, x0]
    rw [this]
    rfl⟩
  · obtain ⟨⟨x, v⟩, e, h1, n, t, h2, h3⟩ := key
    have h2 : v = nI n := h2
    subst h2
    have hnn := h3.2.2.2.1
    subst hnn
    refine ⟨x, t, ?_, h1, h3⟩
    unfold f_X12_equate
    rw [e, ob_s]
  · obtain ⟨x, b, c⟩ := z
    obtain ⟨e1, e2, n, t, e3, e4⟩ := hI
    dsimp only at e1 e2 e3 e4
    subst e1 e3
    have hx := h.kp e2
    have hR := rowsF_RI hW hn i (by omega)
    have hn64 : n ≤ 64 := by have := ldn_le hR hn; rw [e4.2.2.2.1]; omega
    unfold f_X12_equate_4
    dsimp only [bnd]
    rw [hx.2.1, if_neg (nI_ge hi (by omega)), if_pos (inb_t (by omega) (by omega)), nI_clamp (by omega), hx.2.2.2.2 i hi, eq_in hR hn e4, ob_s]
    simp only [lg_cmp_eq]
    by_cases hz : rdc (rowsF w.2 i) (wl w.2 i) = 0
    · rw [if_pos hz]
      have e : rowsF w.2 (i + 1) = rowsF w.2 i := by simp only [rowsF, if_pos hz]
      exact ⟨(x, nI n, nI (i + 1)), by rw [nI_1], rfl, e2, n, t, rfl, by rw [e]; exact e4⟩
    · have hlo := (low_tb hz).2.1
      have hlead := fun c (hc : rowsF w.2 i c ≠ 0) => rdc_lead hR (wl w.2 i) hc
      have e : rowsF w.2 (i + 1) = rAdd (rowsF w.2 i) (rdc (rowsF w.2 i) (wl w.2 i)) := by simp only [rowsF, if_neg hz]
      obtain ⟨v, g1, g2, g3⟩ := eq_upd hR hn e4 (nI i) hz
      have hlt : n < 64 := by
        have h9 := rowsF_RI hW hn (i + 1) (by omega)
        rw [e] at h9
        have := ldn_le h9 hn
        rw [ldn_add hR hz hlead, ← e4.2.2.2.1] at this
        omega
      rw [if_neg hz, eq_low _ _ hz, ob_s, g1, ob_s, if_pos (inb_t hlt (by omega)), nI_clamp (by omega)]
      refine ⟨(oA (oB v 31 (vp_updL (v.2.2.2 31) n (rdc (rowsF w.2 i) (wl w.2 i)))) 33 (upd ((oB v 31 (vp_updL (v.2.2.2 31) n (rdc (rowsF w.2 i) (wl w.2 i)))).2.2.1 33) n (nI (low (rdc (rowsF w.2 i) (wl w.2 i))))), nI (n + 1), nI (i + 1)), ?_, rfl, ?_, n + 1, fun k => if k = n then low (rdc (rowsF w.2 i) (wl w.2 i)) else t k, rfl, ?_⟩
      · rw [nI_1, nI_1]
      · refine Keep.tr e2 (Keep.oA (Keep.oB (Keep.mono g2 (inL_sub (by decide)) (inL_sub (by decide)) (inL_sub (by decide))) rfl) rfl)
      · rw [e]
        refine EQ.add hR e4 hz hlead (fun k hk => ?_) ?_ (fun k hk => ?_) ?_
        · rw [oA_self]
          unfold upd
          rw [if_neg (show ¬ k = n by omega), oB_A, g2.2.1 33 rfl]
        · rw [oA_self]
          unfold upd
          rw [if_pos rfl]
        · rw [oA_B, oB_self]
          unfold vp_updL
          rw [if_neg (show ¬ k = n by omega)]
          exact g3 k hk
        · rw [oA_B, oB_self]
          unfold vp_updL
          rw [if_pos rfl]
  · obtain ⟨x, b, c⟩ := z
    obtain ⟨e1, e2, n, t, e3, e4⟩ := hI
    dsimp only at e1 e2 e3 e4
    subst e1 e3
    refine ⟨(x, nI n), ?_, e2, n, t, rfl, e4⟩
    unfold f_X12_equate_4
    dsimp only
    rw [(h.kp e2).2.1, if_pos (nI_le (Nat.le_refl _) (by omega))]
end EQR
