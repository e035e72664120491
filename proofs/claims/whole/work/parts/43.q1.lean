/-! questions: laws, orders, own numbers, sets on lines -/
theorem and_c (x y : Int64) : x &&& y = y &&& x := tb_ext (fun i _ => by rw [tb_and, tb_and, Bool.and_comm])
theorem lt2 (x : Int64) : (nI (pcn x) < (2 : Int32)) ↔ pcn x < 2 := by
  have := pcn_le x
  exact nI_ltI (b := 2) (by omega) (by omega)
theorem le1 (x : Int64) : (nI (pcn x) ≤ (1 : Int32)) ↔ pcn x < 2 := by
  have := pcn_le x
  rw [show (1 : Int32) = nI 1 from rfl, nI_leI (by omega) (by omega)]
  omega
theorem eqp (x y : Int64) : (nI (pcn x) = nI (pcn y)) ↔ pcn x = pcn y := by
  have := pcn_le x
  have := pcn_le y
  exact nI_eq (by omega) (by omega)
theorem eq1p (x : Int64) : (nI (pcn x) = (1 : Int32)) ↔ pcn x = 1 := by
  have := pcn_le x
  exact nI_eq (b := 1) (by omega) (by omega)
def lawA1 (w : Wd) (i : Nat) : Bool := allF (fun k => decide (pcn (wl w.2 i &&& wl w.2 k) < 2)) 0 i
def lawA (w : Wd) : Bool := allF (lawA1 w) 0 w.2.length
def lawB (w : Wd) : Bool := allF (fun i => decide (pcn (wl w.2 i) = pcn (wl w.2 0))) 1 (w.2.length - 1)
def lawC (w : Wd) : Bool := allF (fun p => decide (pcn (thrF w.2 p) = pcn (thrF w.2 0))) 1 (w.1 - 1)
def lawD1 (w : Wd) (p : Nat) : Bool := allF (fun i => tb (wl w.2 i) p || decide (pcn (nearF w.2 p &&& wl w.2 i) = 1)) 0 w.2.length
def lawD (w : Wd) : Bool := allF (lawD1 w) 0 w.1
def lawW (w : Wd) : Int32 := if lawA w = true then if lawB w = true then if lawC w = true then if lawD w = true then 0 else 4 else 3 else 2 else 1
section LAWC
variable {stn : OS} {w : Wd}
theorem lawA_10 (hw : CW stn w) : f_X2_linesMeetOnce stn = some (if lawA w = true then 1 else 0) := by
  have hl := hw.1.2.2.2.1
  have inner : ∀ i, i < w.2.length → lpv (f_X2_linesMeetOnce_12 stn (nI i)) 0 = some (if lawA1 w i = true then 1 else 0) := fun i hi => lpv_allF (N := i) (fun k hk => by
    unfold f_X2_linesMeetOnce_12
    rw [if_neg (nI_ge hk (by omega)), setAt_10 hw.1 hi, ob_s, setAt_10 hw.1 (by omega), ob_s, bitCount_13, ob_s]
    simp only [lt2, decide_eq_true_eq, bnd, nI_1]) (fun k h1 h2 => by
    unfold f_X2_linesMeetOnce_12
    rw [if_pos (nI_le h1 (by omega))]) 0 (Nat.zero_le _)
  have outer : lpv (f_X2_linesMeetOnce_2 stn) 0 = some (if lawA w = true then 1 else 0) := lpv_allF (N := w.2.length) (fun i hi => by
    unfold f_X2_linesMeetOnce_2
    rw [hw.1.2.1, if_neg (nI_ge hi (by omega)), inner i hi, ob_s]
    simp only [bnd, nI_1]
    cases lawA1 w i <;> rfl) (fun i h1 h2 => by
    unfold f_X2_linesMeetOnce_2
    rw [hw.1.2.1, if_pos (nI_le h1 (by omega))]) 0 (Nat.zero_le _)
  unfold f_X2_linesMeetOnce
  rw [outer, ob_s]
  cases lawA w <;> rfl
theorem lawB_10 (hw : CW stn w) : f_X2_linesAreAsLong stn = some (if lawB w = true then 1 else 0) := by
  have hl := hw.1.2.2.2.1
  have outer : lpv (f_X2_linesAreAsLong_2 stn) 1 = some (if lawB w = true then 1 else 0) := lpv_allF (N := w.2.length) (fun i hi => by
    have e0 : f_X10_setAt stn 0 = some (wl w.2 0) := setAt_10 hw.1 (i := 0) (by omega)
    unfold f_X2_linesAreAsLong_2
    rw [hw.1.2.1, if_neg (nI_ge hi (by omega)), setAt_10 hw.1 hi, ob_s, bitCount_13, ob_s, e0, ob_s, bitCount_13, ob_s]
    simp only [eqp, decide_eq_true_eq, bnd, nI_1]) (fun i h1 h2 => by
    unfold f_X2_linesAreAsLong_2
    rw [hw.1.2.1, if_pos (nI_le h1 (by omega))]) 1 (by omega)
  unfold f_X2_linesAreAsLong
  rw [outer, ob_s]
  cases lawB w <;> rfl
theorem lawC_10 (hw : CW stn w) : f_X2_pointsHaveAsMany stn = some (if lawC w = true then 1 else 0) := by
  have hn := hw.1.2.2.1
  have outer : lpv (f_X2_pointsHaveAsMany_2 stn) 1 = some (if lawC w = true then 1 else 0) := lpv_allF (N := w.1) (fun i hi => by
    have e0 : f_X10_throughAt stn 0 = some (thrF w.2 0) := throughAt_10 hw (p := 0) (by omega)
    unfold f_X2_pointsHaveAsMany_2
    rw [hw.1.1, if_neg (nI_ge hi (by omega)), throughAt_10 hw hi, ob_s, bitCount_13, ob_s, e0, ob_s, bitCount_13, ob_s]
    simp only [eqp, decide_eq_true_eq, bnd, nI_1]) (fun i h1 h2 => by
    unfold f_X2_pointsHaveAsMany_2
    rw [hw.1.1, if_pos (nI_le h1 (by omega))]) 1 (by omega)
  unfold f_X2_pointsHaveAsMany
  rw [outer, ob_s]
  cases lawC w <;> rfl
theorem lawD_10 (hw : CW stn w) : f_X2_justOneIsJoined stn = some (if lawD w = true then 1 else 0) := by
  have hl := hw.1.2.2.2.1
  have hn := hw.1.2.2.1
  have inner : ∀ p, p < w.1 → lpv (f_X2_justOneIsJoined_19 stn (nI p) (nearF w.2 p)) 0 = some (if lawD1 w p = true then 1 else 0) := fun p hp => lpv_allF (N := w.2.length) (fun k hk => by
    unfold f_X2_justOneIsJoined_19
    rw [hw.1.2.1, if_neg (nI_ge hk (by omega)), setAt_10 hw.1 hk, ob_s, has_10 (by omega), ob_s]
    cases tb (wl w.2 k) p with
    | true => rw [if_neg b2t, Bool.true_or, if_pos rfl]; simp only [bnd, nI_1]
    | false =>
      rw [if_pos b2f, ob_s, bitCount_13, ob_s]
      simp only [Bool.false_or, eq1p, decide_eq_true_eq, bnd, nI_1]) (fun k h1 h2 => by
    unfold f_X2_justOneIsJoined_19
    rw [hw.1.2.1, if_pos (nI_le h1 (by omega))]) 0 (Nat.zero_le _)
  have outer : lpv (f_X2_justOneIsJoined_2 stn) 0 = some (if lawD w = true then 1 else 0) := lpv_allF (N := w.1) (fun p hp => by
    unfold f_X2_justOneIsJoined_2
    rw [hw.1.1, if_neg (nI_ge hp (by omega)), nearAt_10 hw hp, ob_s, inner p hp, ob_s]
    simp only [bnd, nI_1]
    cases lawD1 w p <;> rfl) (fun i h1 h2 => by
    unfold f_X2_justOneIsJoined_2
    rw [hw.1.1, if_pos (nI_le h1 (by omega))]) 0 (Nat.zero_le _)
  unfold f_X2_justOneIsJoined
  rw [outer, ob_s]
  cases lawD w <;> rfl
theorem law_10 (hw : CW stn w) : f_X2_firstBroken stn = some (lawW w) := by
  unfold f_X2_firstBroken lawW
  rw [lawA_10 hw, ob_s]
  cases lawA w with
  | false => rfl
  | true =>
    rw [if_neg (by decide), lawB_10 hw, ob_s]
    cases lawB w with
    | false => rfl
    | true =>
      rw [if_neg (by decide), lawC_10 hw, ob_s]
      cases lawC w with
      | false => rfl
      | true =>
        rw [if_neg (by decide), lawD_10 hw, ob_s]
        cases lawD w <;> rfl
end LAWC
section LAWR
variable {st : OS} {w : Wd}
theorem law_12 (h : RWo st w.1 w.2) : ∃ x, f_X12_firstLaw st = some (lawW w, x) ∧ Kp st x := by
  obtain ⟨y, ey, ky, hy⟩ := layN h
  have hl := h.2.2.2.1
  have hn := h.2.2.1
  have A1 : ∀ i, i < w.2.length → lpv (f_X12_firstLaw_12 st (nI i)) 0 = some (if lawA1 w i = true then 1 else 0) := fun i hi => lpv_allF (N := i) (fun k hk => by
    unfold f_X12_firstLaw_12
    rw [if_neg (nI_ge hk (by omega)), if_pos (inb_t (by omega) (by omega)), if_pos (inb_t (by omega) (by omega)), nI_clamp (by omega), nI_clamp (by omega), h.2.2.2.2 i hi, h.2.2.2.2 k (by omega), ones_12, ob_s]
    simp only [le1, decide_eq_true_eq, bnd, nI_1]) (fun k h1 h2 => by
    unfold f_X12_firstLaw_12
    rw [if_pos (nI_le h1 (by omega))]) 0 (Nat.zero_le _)
  have A : lpv (f_X12_firstLaw_2 st) 0 = some (if lawA w = true then 1 else 0) := lpv_allF (N := w.2.length) (fun i hi => by
    unfold f_X12_firstLaw_2
    rw [h.2.1, if_neg (nI_ge hi (by omega)), A1 i hi, ob_s]
    simp only [bnd, nI_1]
    cases lawA1 w i <;> rfl) (fun i h1 h2 => by
    unfold f_X12_firstLaw_2
    rw [h.2.1, if_pos (nI_le h1 (by omega))]) 0 (Nat.zero_le _)
  have B : lpv (f_X12_firstLaw_53 st) 1 = some (if lawB w = true then 1 else 0) := lpv_allF (N := w.2.length) (fun i hi => by
    unfold f_X12_firstLaw_53
    rw [h.2.1, if_neg (nI_ge hi (by omega)), if_pos (inb_t (by omega) (by omega)), nI_clamp (by omega), h.2.2.2.2 i hi, ones_12, ob_s, if_pos (show inb 0 64 = true from rfl), show ((0 : Int32).toNatClampNeg) = 0 from rfl, h.2.2.2.2 0 (by omega), ones_12, ob_s]
    simp only [eqp, decide_eq_true_eq, bnd, nI_1]) (fun i h1 h2 => by
    unfold f_X12_firstLaw_53
    rw [h.2.1, if_pos (nI_le h1 (by omega))]) 1 (by omega)
  have e0 : f_X12_throughOf st 0 = some (thrF w.2 0) := throughOf_12 h (p := 0) (by decide)
  have C : lpv (f_X12_firstLaw_92 st) 1 = some (if lawC w = true then 1 else 0) := lpv_allF (N := w.1) (fun i hi => by
    unfold f_X12_firstLaw_92
    rw [h.1, if_neg (nI_ge hi (by omega)), throughOf_12 h (by omega), ob_s, ones_12, ob_s, e0, ob_s, ones_12, ob_s]
    simp only [eqp, decide_eq_true_eq, bnd, nI_1]) (fun i h1 h2 => by
    unfold f_X12_firstLaw_92
    rw [h.1, if_pos (nI_le h1 (by omega))]) 1 (by omega)
  have D1 : ∀ p, p < w.1 → lpv (f_X12_firstLaw_143 y (nI p)) 0 = some (if lawD1 w p = true then 1 else 0) := fun p hp => lpv_allF (N := w.2.length) (fun k hk => by
    unfold f_X12_firstLaw_143
    rw [hy.1.2.1, if_neg (nI_ge hk (by omega)), if_pos (inb_t (by omega) (by omega)), nI_clamp (by omega), hy.1.2.2.2.2 k hk, has_12 (by omega), ob_s]
    cases tb (wl w.2 k) p with
    | true => rw [if_neg b2t, Bool.true_or, if_pos rfl]; simp only [bnd, nI_1]
    | false =>
      rw [if_pos b2f, if_pos (inb_t (by omega) (by omega)), nI_clamp (by omega), hy.2 p hp, and_c, ones_12, ob_s]
      simp only [Bool.false_or, eq1p, decide_eq_true_eq, bnd, nI_1]) (fun k h1 h2 => by
    unfold f_X12_firstLaw_143
    rw [hy.1.2.1, if_pos (nI_le h1 (by omega))]) 0 (Nat.zero_le _)
  have D : lpv (f_X12_firstLaw_133 y) 0 = some (if lawD w = true then 1 else 0) := lpv_allF (N := w.1) (fun p hp => by
    unfold f_X12_firstLaw_133
    rw [hy.1.1, if_neg (nI_ge hp (by omega)), D1 p hp, ob_s]
    simp only [bnd, nI_1]
    cases lawD1 w p <;> rfl) (fun i h1 h2 => by
    unfold f_X12_firstLaw_133
    rw [hy.1.1, if_pos (nI_le h1 (by omega))]) 0 (Nat.zero_le _)
  unfold f_X12_firstLaw lawW
  rw [A, ob_s]
  cases lawA w with
  | false => exact ⟨st, rfl, Keep.rf⟩
  | true =>
    rw [if_neg (by decide), B, ob_s]
    cases lawB w with
    | false => exact ⟨st, rfl, Keep.rf⟩
    | true =>
      rw [if_neg (by decide), C, ob_s]
      cases lawC w with
      | false => exact ⟨st, rfl, Keep.rf⟩
      | true =>
        rw [if_neg (by decide), ey, ob_s, D, ob_s]
        cases lawD w <;> exact ⟨y, rfl, ky⟩
theorem q_law (h : RWo st w.1 w.2) : ∃ k, (∀ stt stn, CW stn w → f_X11_law stt stn = some k) ∧ ∃ x, f_X12_law st = some (k, x) ∧ Kt st x := by
  obtain ⟨x, e, k⟩ := law_12 (h.th 0)
  refine ⟨lawW w, fun stt stn hw => ?_, x, ?_, Kt.p k⟩
  · unfold f_X11_law
    rw [law_10 hw, ob_s]
  · unfold f_X12_law
    dsimp only [bnd]
    rw [e, ob_s]
/-- the orders -/
def ordW (w : Wd) (b : Bool) : Int32 := if w.2.length = 0 then -1 else if lawW w = 0 then (if b = true then nI (pcn (thrF w.2 0)) - 1 else nI (pcn (wl w.2 0)) - 1) else -1
theorem have_10 {stn : OS} (hw : CW stn w) : f_X2_haveOrders stn = some (if w.2.length = 0 then 0 else if lawW w = 0 then 1 else 0) := by
  have hl := hw.1.2.2.2.1
  unfold f_X2_haveOrders
  rw [hw.1.2.1]
  by_cases h1 : w.2.length = 0
  · rw [if_pos h1, if_pos (by rw [h1]; decide)]
  · rw [if_neg h1, if_neg (nI_nle (by omega) (by omega)), law_10 hw, ob_s]
    split <;> rfl
/-- lines have two points or more, all of them points -/
def WFw (w : Wd) : Prop := ∀ i, i < w.2.length → wl w.2 i &&& (fst64 w.1 ^^^ (-1)) = 0 ∧ 2 ≤ pcn (wl w.2 i)
theorem WFw.pt (h : WFw w) (hn : w.1 ≤ 64) {i p : Nat} (hi : i < w.2.length) (hp : tb (wl w.2 i) p = true) : p < w.1 := by
  have h1 := (h i hi).1
  have h2 : tb (wl w.2 i &&& (fst64 w.1 ^^^ (-1))) p = false := by rw [h1, tb_0]
  rw [tb_dif, hp, tb_fst64 hn] at h2
  simpa using h2
theorem WFw.pos (h : WFw w) (hn : w.1 ≤ 64) (hl : w.2.length ≠ 0) : 0 < w.1 := by
  have h1 := (h 0 (by omega)).2
  have h2 : wl w.2 0 ≠ 0 := fun z => by rw [z, pcn_zero] at h1; omega
  obtain ⟨i, -, hi⟩ := ne0 h2
  have := h.pt hn (by omega) hi
  omega
theorem ord1_10 {stn : OS} (hw : CW stn w) : f_X2_firstOrder stn = some (ordW w false) := by
  unfold f_X2_firstOrder ordW
  rw [have_10 hw, ob_s]
  by_cases h1 : w.2.length = 0
  · rw [if_pos h1, if_pos h1, if_pos rfl]
  · rw [if_neg h1, if_neg h1]
    have e0 : f_X10_setAt stn 0 = some (wl w.2 0) := setAt_10 hw.1 (i := 0) (by omega)
    by_cases h2 : lawW w = 0
    · rw [if_pos h2, if_pos h2, if_neg ne10, e0, ob_s, bitCount_13, ob_s, if_neg (by decide)]
    · rw [if_neg h2, if_neg h2, if_pos rfl]
theorem ord2_10 {stn : OS} (hw : CW stn w) (hW : WFw w) : f_X2_secondOrder stn = some (ordW w true) := by
  unfold f_X2_secondOrder ordW
  rw [have_10 hw, ob_s]
  by_cases h1 : w.2.length = 0
  · rw [if_pos h1, if_pos h1, if_pos rfl]
  · rw [if_neg h1, if_neg h1]
    have e0 : f_X10_throughAt stn 0 = some (thrF w.2 0) := throughAt_10 hw (p := 0) (hW.pos hw.1.2.2.1 h1)
    by_cases h2 : lawW w = 0
    · rw [if_pos h2, if_pos h2, if_neg ne10, e0, ob_s, bitCount_13, ob_s, if_pos rfl]
    · rw [if_neg h2, if_neg h2, if_pos rfl]
theorem ord_12 (h : RWo st w.1 w.2) (b : Bool) : ∃ x, f_X12_orderOf st (b2i b) = some (ordW w b, x) ∧ Kp st x := by
  obtain ⟨y, ey, ky⟩ := law_12 h
  have hl := h.2.2.2.1
  unfold f_X12_orderOf ordW
  rw [h.2.1]
  by_cases h1 : w.2.length = 0
  · rw [if_pos h1, if_pos (by rw [h1]; rfl)]
    exact ⟨st, rfl, Keep.rf⟩
  · rw [if_neg h1, if_neg (nI_ne0 (by omega) (by omega)), ey, ob_s]
    dsimp only
    have hy := h.kp ky
    by_cases h2 : lawW w = 0
    · rw [if_pos h2, if_pos h2]
      cases b with
      | false =>
        rw [if_pos b2f, if_pos (show inb 0 64 = true from rfl), show ((0 : Int32).toNatClampNeg) = 0 from rfl, hy.2.2.2.2 0 (by omega), ones_12, ob_s]
        exact ⟨y, rfl, ky⟩
      | true =>
        have e0 : f_X12_throughOf y 0 = some (thrF w.2 0) := throughOf_12 hy (p := 0) (by decide)
        rw [if_neg b2t, e0, ob_s, ones_12, ob_s]
        exact ⟨y, rfl, ky⟩
    · rw [if_neg h2, if_neg h2]
      exact ⟨y, rfl, ky⟩
theorem q_order (h : RWo st w.1 w.2) (hW : WFw w) (a0 : Int32) (ha : a0 = 0 ∨ a0 = 1) : ∃ k, (∀ stt stn, CW stn w → f_X11_order stt stn a0 = some k) ∧ ∃ x, f_X12_order st a0 = some (k, x) ∧ Kt st x := by
  have key : ∀ b : Bool, ∃ k, (∀ stt stn, CW stn w → f_X11_order stt stn (b2i b) = some k) ∧ ∃ x, f_X12_order st (b2i b) = some (k, x) ∧ Kt st x := by
    intro b
    obtain ⟨x, e, k⟩ := ord_12 (h.th 0) b
    refine ⟨ordW w b, fun stt stn hw => ?_, x, ?_, Kt.p k⟩
    · unfold f_X11_order
      cases b with
      | false => rw [if_pos b2f, ord1_10 hw, ob_s]
      | true => rw [if_neg b2t, ord2_10 hw hW, ob_s]
    · unfold f_X12_order
      dsimp only [bnd]
      rw [e, ob_s]
  rcases ha with rfl | rfl
  · exact key false
  · exact key true
end LAWR
