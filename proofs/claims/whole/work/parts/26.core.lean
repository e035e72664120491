/-! the class's world, its draft and its History together -/
def HW (bs : List OS) (ws : List Wd) : Prop := bs.length = ws.length ∧ ∀ (k : Nat) (b : OS) (w : Wd), bs[k]? = some b → ws[k]? = some w → CW b w
theorem HW.nil : HW [] [] := ⟨rfl, fun k b w h => by simp at h⟩
theorem HW.of0 {ws : List Wd} (h : HW [] ws) : ws = [] := List.eq_nil_of_length_eq_zero h.1.symm
theorem HW.snoc {bs : List OS} {ws : List Wd} {y : OS} {w : Wd} (h : HW bs ws) (hy : CW y w) : HW (bs ++ [y]) (ws ++ [w]) := by
  refine ⟨by rw [List.length_append, List.length_append, h.1]; rfl, fun k b v hb hv => ?_⟩
  rcases Nat.lt_or_ge k bs.length with q | q
  · rw [List.getElem?_append_left q] at hb
    rw [List.getElem?_append_left (by rw [← h.1]; exact q)] at hv
    exact h.2 k b v hb hv
  · rw [List.getElem?_append_right q] at hb
    rw [List.getElem?_append_right (by rw [← h.1]; exact q), ← h.1] at hv
    have hk : k - bs.length = 0 := by have := (List.getElem?_eq_some_iff.mp hb).1; simp at this; omega
    rw [hk] at hb hv
    simp at hb hv
    subst hb hv
    exact hy
theorem HW.tail {bs : List OS} {ws : List Wd} (h : HW bs ws) : HW bs.tail ws.tail := by
  refine ⟨by rw [List.length_tail, List.length_tail, h.1], fun k b v hb hv => ?_⟩
  rw [List.getElem?_tail] at hb hv
  exact h.2 _ b v hb hv
theorem HW.push {bs : List OS} {ws : List Wd} {y : OS} {w : Wd} (h : HW bs ws) (hy : CW y w) : HW (pushB bs y) (pushW ws w) := by
  unfold pushB pushW
  rw [h.1]
  split
  · exact h.tail.snoc hy
  · exact h.snoc hy
theorem HW.split {s0 : List OS} {y : OS} {ws : List Wd} (h : HW (s0 ++ [y]) ws) : ∃ w0 v, ws = w0 ++ [v] ∧ HW s0 w0 ∧ CW y v := by
  have h1 := h.1
  rw [List.length_append, List.length_singleton] at h1
  obtain ⟨w0, v, hw⟩ := snoc_of (show ws ≠ [] from fun z => by rw [z] at h1; simp at h1)
  subst hw
  rw [List.length_append, List.length_singleton] at h1
  refine ⟨w0, v, rfl, ⟨by omega, fun k b u hb hu => ?_⟩, ?_⟩
  · refine h.2 k b u ?_ ?_
    · rw [List.getElem?_append_left (List.getElem?_eq_some_iff.mp hb).1]; exact hb
    · rw [List.getElem?_append_left (List.getElem?_eq_some_iff.mp hu).1]; exact hu
  · refine h.2 s0.length y v ?_ ?_
    · rw [List.getElem?_append_right (Nat.le_refl _), Nat.sub_self]; rfl
    · rw [show s0.length = w0.length by omega, List.getElem?_append_right (Nat.le_refl _), Nat.sub_self]; rfl
theorem HW.ne {bs : List OS} {ws : List Wd} (h : HW bs ws) : bs = [] ↔ ws = [] := by
  constructor
  · intro z; subst z; exact h.of0
  · intro z; subst z; exact List.eq_nil_of_length_eq_zero h.1
def Core (G : mG) (qt qn qd qh : Nat → Nat) (ow : Nat → Nat) (m : mM) (w : Wd) (bw aw : List Wd) (S : Nat → Prop) : Prop :=
  ∃ (stt stn std : OS) (fb fa : Nat → Option Nat) (bs as : List OS), At G ow m LX11 qt stt ∧ At G ow m LX10 qn stn ∧ CW stn w ∧ At G ow m LX10 qd std ∧ Hst G ow m qh fb fa bs as ∧ HW bs bw ∧ HW as aw ∧
    (∀ j, fb j ≠ some (qn 5) ∧ fa j ≠ some (qn 5) ∧ fb j ≠ some (qd 5) ∧ fa j ≠ some (qd 5)) ∧ (qt 1 = qn 5 ∧ qt 2 = qd 5 ∧ qt 3 = qh 4 ∧ qd 5 ≠ qn 5) ∧ S = (fun r => HR qh fb fa r ∨ r = qn 5 ∨ r = qd 5)
def CoreP (G : mG) (qt qn qd qh : Nat → Nat) (ow : Nat → Nat) (m : mM) (S : Nat → Prop) (m' : mM) (w : Wd) (bw aw : List Wd) : Prop :=
  ∃ ow' S', Core G qt qn qd qh ow' m' w bw aw S' ∧ FrA G S ow m ow' m' ∧ ∀ r, S' r → S r ∨ m r = none
section CORE
variable {l : Launch} {G : mG} {qt qn qd qh : Nat → Nat} {ow : Nat → Nat} {m : mM} {w : Wd} {bw aw : List Wd} {S : Nat → Prop}
theorem CoreP.tr {m1 m2 : mM} {w1 w2 : Wd} {bw1 aw1 bw2 aw2 : List Wd} (h : CoreP G qt qn qd qh ow m S m1 w1 bw1 aw1) (k : ∀ ow1 S1, Core G qt qn qd qh ow1 m1 w1 bw1 aw1 S1 → CoreP G qt qn qd qh ow1 m1 S1 m2 w2 bw2 aw2) : CoreP G qt qn qd qh ow m S m2 w2 bw2 aw2 := by
  obtain ⟨ow1, S1, hC, hF, hS⟩ := h
  obtain ⟨ow2, S2, hC2, hF2, hS2⟩ := k ow1 S1 hC
  refine ⟨ow2, S2, hC2, hF.tr hF2 hS, fun r hr => ?_⟩
  rcases hS2 r hr with z | z
  · exact hS r z
  · right
    cases hm : m r with
    | none => rfl
    | some e => exact absurd z (hF.2.2 r (by rw [hm]; exact Option.some_ne_none _))
theorem CoreP.rf (h : Core G qt qn qd qh ow m w bw aw S) : CoreP G qt qn qd qh ow m S m w bw aw := ⟨ow, S, h, FrA.rf, fun _ z => Or.inl z⟩
theorem core_of {stt stn std : OS} {fb fa : Nat → Option Nat} {bs as : List OS} (hT : At G ow m LX11 qt stt) (hn : At G ow m LX10 qn stn) (hd : At G ow m LX10 qd std) (hS : Hst G ow m qh fb fa bs as)
    (hx : ∀ j, fb j ≠ some (qn 5) ∧ fa j ≠ some (qn 5) ∧ fb j ≠ some (qd 5) ∧ fa j ≠ some (qd 5)) (hk : qt 1 = qn 5 ∧ qt 2 = qd 5 ∧ qt 3 = qh 4 ∧ qd 5 ≠ qn 5)
    {ow1 : Nat → Nat} {m' : mM} {fb1 fa1 : Nat → Option Nat} {bs1 as1 : List OS} {T : Nat → Prop} (hTs : ∀ r, T r → r = qn 5 ∨ r = qd 5) (hS1 : Hst G ow1 m' qh fb1 fa1 bs1 as1) (hP : HP G T ow m qh fb fa ow1 m' fb1 fa1)
    {x y : OS} (hn1 : At G ow1 m' LX10 qn x) (hd1 : At G ow1 m' LX10 qd y) {w' : Wd} (hw : CW x w') {bw' aw' : List Wd} (hb : HW bs1 bw') (ha : HW as1 aw') : CoreP G qt qn qd qh ow m (fun r => HR qh fb fa r ∨ r = qn 5 ∨ r = qd 5) m' w' bw' aw' := by
  have hT1 : At G ow1 m' LX11 qt stt := hP.1.1 _ _ _ (fun z => z.elim (HR.neAt hS hT (by decide) (by decide)) (fun z => (hTs _ z).elim (fun z => hT.ne hn (by decide) z) (fun z => hT.ne hd (by decide) z))) hT
  have hno : ∀ {q : Nat → Nat} {st : OS}, At G ow m LX10 q st → (∀ j, fb j ≠ some (q 5)) → (∀ j, fa j ≠ some (q 5)) → ¬ HR qh fb1 fa1 (q 5) := fun {q st} hq h1 h2 z => (hP.2 _ z).elim (HR.neW hS hq h1 h2) (fun z => by have := hq.root; rw [show q LX10.2.1 = q 5 from rfl, z] at this; cases this)
  have hnn := hno hn (fun j => (hx j).1) (fun j => (hx j).2.1)
  have hnd := hno hd (fun j => (hx j).2.2.1) (fun j => (hx j).2.2.2)
  refine ⟨ow1, _, ⟨stt, x, y, fb1, fa1, bs1, as1, hT1, hn1, hw, hd1, hS1, hb, ha, fun j => ⟨fun z => hnn (Or.inr (Or.inr (Or.inr (Or.inl ⟨j, z⟩)))), fun z => hnn (Or.inr (Or.inr (Or.inr (Or.inr ⟨j, z⟩)))), fun z => hnd (Or.inr (Or.inr (Or.inr (Or.inl ⟨j, z⟩)))), fun z => hnd (Or.inr (Or.inr (Or.inr (Or.inr ⟨j, z⟩))))⟩, hk, rfl⟩, hP.1.mono (fun a z => z.elim Or.inl (fun z => Or.inr (hTs a z))), fun r hr => ?_⟩
  rcases hr with z | z
  · exact (hP.2 r z).elim (fun z => Or.inl (Or.inl z)) Or.inr
  · exact Or.inl (Or.inr z)
theorem append_64 {st : OS} {n : Nat} {l : List Int64} (h : PL st n l) (s : Int64) (hm : l.length = 64) : f_X10_append st s = some st := by
  unfold f_X10_append
  rw [h.2.1, hm, if_neg (show ¬ nI 64 < (0 : Int32) by decide), if_pos (show (64 : Int32) ≤ nI 64 by decide)]
theorem core_addLine (hC : Core G qt qn qd qh ow m w bw aw S) (set : Int64) : cQ l G yX11_addLine cX11_addLine 3 (some FieldType.boolean) rm_X11_addLine [.ref (qt 10), .long set] m (mQi G (fun r m' => (w.2.length = 64 ∧ r = 0 ∧ m' = m) ∨ (w.2.length < 64 ∧ r = 1 ∧ CoreP G qt qn qd qh ow m S m' (w.1, w.2 ++ [set]) (pushW bw w) []))) := by
  obtain ⟨stt, stn, std, fb, fa, bs, as, hT, hn, hw, hd, hS, hb, ha, hx, hk, rfl⟩ := hC
  have hl := hw.1.2.2.2.1
  rcases Nat.lt_or_ge w.2.length 64 with h64 | h64
  · obtain ⟨y1, e1, p1⟩ := append_10 hw.1 set h64
    obtain ⟨y2, e2, p2⟩ := settle_10 p1
    refine (c_X11_addLine hT hn hS (fun j => (hx j).1) (fun j => (hx j).2.1) hk.1 hk.2.2.1 e1 e2).mono (mQi.mono (fun r m' hp => ?_))
    rcases hp with ⟨h, -, -⟩ | ⟨-, h1, ow1, fb1, h2, h3, h4⟩
    · rw [hw.1.2.1] at h
      exact absurd (nI_lt (a := w.2.length) (b := 64) h64 (by decide)) h
    · exact Or.inr ⟨h64, h1, core_of hT hn hd hS hx hk (fun r z => Or.inl z) h2 h4 h3 (h4.1.1 _ _ _ (fun z => z.elim (HR.neW hS hd (fun j => (hx j).2.2.1) (fun j => (hx j).2.2.2)) hk.2.2.2) hd) p2 (hb.push hw) HW.nil⟩
  · have h64 : w.2.length = 64 := by omega
    obtain ⟨y2, e2, p2⟩ := settle_10 hw.1
    refine (c_X11_addLine hT hn hS (fun j => (hx j).1) (fun j => (hx j).2.1) hk.1 hk.2.2.1 (append_64 hw.1 set h64) e2).mono (mQi.mono (fun r m' hp => ?_))
    rcases hp with ⟨-, h1, h2⟩ | ⟨h, -⟩
    · exact Or.inl ⟨h64, h1, h2⟩
    · rw [hw.1.2.1, h64] at h
      exact absurd h (by decide)
theorem core_dropLine (hC : Core G qt qn qd qh ow m w bw aw S) {i : Nat} (hi : i < w.2.length) : cQ l G yX11_dropLine cX11_dropLine 4 (some FieldType.long) rm_X11_dropLine [.ref (qt 10), .int (nI i)] m (mQl G (fun r m' => r = wl w.2 i ∧ CoreP G qt qn qd qh ow m S m' (w.1, w.2.eraseIdx i) (pushW bw w) [])) := by
  obtain ⟨stt, stn, std, fb, fa, bs, as, hT, hn, hw, hd, hS, hb, ha, hx, hk, rfl⟩ := hC
  obtain ⟨y1, e1, p1⟩ := remove_10 hw.1 hi
  obtain ⟨y2, e2, p2⟩ := settle_10 p1
  refine (c_X11_dropLine hT hn hS (fun j => (hx j).1) (fun j => (hx j).2.1) hk.1 hk.2.2.1 (setAt_10 hw.1 hi) e1 e2).mono (mQl.mono (fun r m' ⟨h1, ow1, fb1, h2, h3, h4⟩ => ?_))
  exact ⟨h1, core_of hT hn hd hS hx hk (fun r z => Or.inl z) h2 h4 h3 (h4.1.1 _ _ _ (fun z => z.elim (HR.neW hS hd (fun j => (hx j).2.2.1) (fun j => (hx j).2.2.2)) hk.2.2.2) hd) p2 (hb.push hw) HW.nil⟩
theorem core_dual (hC : Core G qt qn qd qh ow m w bw aw S) : cQ l G yX11_turnDual cX11_turnDual 1 none rm_X11_turnDual [.ref (qt 10)] m (mQv G (fun m' => CoreP G qt qn qd qh ow m S m' (dualW w) (pushW bw w) [])) := by
  obtain ⟨stt, stn, std, fb, fa, bs, as, hT, hn, hw, hd, hS, hb, ha, hx, hk, rfl⟩ := hC
  obtain ⟨y1, e1, p1⟩ := dual_10 std hw
  refine (c_X11_turnDual hT hn hS (fun j => (hx j).1) (fun j => (hx j).2.1) hk.1 hk.2.2.1 hd (fun j => (hx j).2.2.1) (fun j => (hx j).2.2.2) hk.2.1 hk.2.2.2 e1).mono (mQv.mono (fun m' ⟨ow1, fb1, x, h2, h3, h4, h5, h6⟩ => ?_))
  exact core_of hT hn hd hS hx hk (fun r z => z) h2 h6 h3 h5 (p1.same h4) (hb.push hw) HW.nil
theorem core_left (hC : Core G qt qn qd qh ow m w bw aw S) {p : Nat} (hp : p < w.1) : cQ l G yX11_keepLeft cX11_keepLeft 2 none rm_X11_keepLeft [.ref (qt 10), .int (nI p)] m (mQv G (fun m' => CoreP G qt qn qd qh ow m S m' (leftW w p) (pushW bw w) [])) := by
  obtain ⟨stt, stn, std, fb, fa, bs, as, hT, hn, hw, hd, hS, hb, ha, hx, hk, rfl⟩ := hC
  obtain ⟨y1, e1, p1⟩ := left_10 std hw hp
  refine (c_X11_keepLeft hT hn hS (fun j => (hx j).1) (fun j => (hx j).2.1) hk.1 hk.2.2.1 hd (fun j => (hx j).2.2.1) (fun j => (hx j).2.2.2) hk.2.1 hk.2.2.2 e1).mono (mQv.mono (fun m' ⟨ow1, fb1, x, h2, h3, h4, h5, h6⟩ => ?_))
  exact core_of hT hn hd hS hx hk (fun r z => z) h2 h6 h3 h5 (p1.same h4) (hb.push hw) HW.nil
theorem core_undo (hC : Core G qt qn qd qh ow m w bw aw S) : cQ l G yX11_undo cX11_undo 1 (some FieldType.boolean) rm_X11_undo [.ref (qt 10)] m (mQi G (fun r m' => (bw = [] ∧ r = 0 ∧ m' = m) ∨ (∃ b0 v, bw = b0 ++ [v] ∧ r = 1 ∧ CoreP G qt qn qd qh ow m S m' v b0 (aw ++ [w])))) := by
  obtain ⟨stt, stn, std, fb, fa, bs, as, hT, hn, hw, hd, hS, hb, ha, hx, hk, rfl⟩ := hC
  refine (c_X11_undo hT hn hS (fun j => (hx j).1) (fun j => (hx j).2.1) hk.1 hk.2.2.1).mono (mQi.mono (fun r m' hp => ?_))
  rcases hp with ⟨h1, h2, h3⟩ | ⟨s0, y, h1, h2, ow1, fd1, x, h3, h4, h5, h6⟩
  · exact Or.inl ⟨hb.ne.mp h1, h2, h3⟩
  · subst h1
    obtain ⟨w0, v, e1, e2, e3⟩ := hb.split
    exact Or.inr ⟨w0, v, e1, h2, core_of hT hn hd hS hx hk (fun r z => Or.inl z) h3 h6 h4 (h6.1.1 _ _ _ (fun z => z.elim (HR.neW hS hd (fun j => (hx j).2.2.1) (fun j => (hx j).2.2.2)) hk.2.2.2) hd) (e3.same h5) e2 (ha.snoc hw)⟩
theorem core_again (hC : Core G qt qn qd qh ow m w bw aw S) : cQ l G yX11_again cX11_again 1 (some FieldType.boolean) rm_X11_again [.ref (qt 10)] m (mQi G (fun r m' => (aw = [] ∧ r = 0 ∧ m' = m) ∨ (∃ a0 v, aw = a0 ++ [v] ∧ r = 1 ∧ CoreP G qt qn qd qh ow m S m' v (bw ++ [w]) a0))) := by
  obtain ⟨stt, stn, std, fb, fa, bs, as, hT, hn, hw, hd, hS, hb, ha, hx, hk, rfl⟩ := hC
  refine (c_X11_again hT hn hS (fun j => (hx j).1) (fun j => (hx j).2.1) hk.1 hk.2.2.1).mono (mQi.mono (fun r m' hp => ?_))
  rcases hp with ⟨h1, h2, h3⟩ | ⟨s0, y, h1, h2, ow1, fd1, x, h3, h4, h5, h6⟩
  · exact Or.inl ⟨ha.ne.mp h1, h2, h3⟩
  · subst h1
    obtain ⟨w0, v, e1, e2, e3⟩ := ha.split
    exact Or.inr ⟨w0, v, e1, h2, core_of hT hn hd hS hx hk (fun r z => Or.inl z) h3 h6 h4 (h6.1.1 _ _ _ (fun z => z.elim (HR.neW hS hd (fun j => (hx j).2.2.1) (fun j => (hx j).2.2.2)) hk.2.2.2) hd) (e3.same h5) (hb.snoc hw) e2⟩
/-- the History's two moves, called for themselves -/
theorem core_goBack (hC : Core G qt qn qd qh ow m w bw aw S) : cQ l G yX1_goBack cX1_goBack 2 (some FieldType.boolean) rm_X1_goBack [.ref (qh 4), .ref (qn 5)] m (mQi G (fun r m' => (bw = [] ∧ r = 0 ∧ m' = m) ∨ (∃ b0 v, bw = b0 ++ [v] ∧ r = 1 ∧ CoreP G qt qn qd qh ow m S m' v b0 (aw ++ [w])))) := by
  obtain ⟨stt, stn, std, fb, fa, bs, as, hT, hn, hw, hd, hS, hb, ha, hx, hk, rfl⟩ := hC
  refine (c_X1_goBack hn hS (fun j => (hx j).1) (fun j => (hx j).2.1)).mono (mQi.mono (fun r m' hp => ?_))
  rcases hp with ⟨h1, h2, h3⟩ | ⟨s0, y, h1, h2, ow1, fd1, x, h3, h4, h5, h6⟩
  · exact Or.inl ⟨hb.ne.mp h1, h2, h3⟩
  · subst h1
    obtain ⟨w0, v, e1, e2, e3⟩ := hb.split
    exact Or.inr ⟨w0, v, e1, h2, core_of hT hn hd hS hx hk (fun r z => Or.inl z) h3 h6 h4 (h6.1.1 _ _ _ (fun z => z.elim (HR.neW hS hd (fun j => (hx j).2.2.1) (fun j => (hx j).2.2.2)) hk.2.2.2) hd) (e3.same h5) e2 (ha.snoc hw)⟩
theorem core_goOn (hC : Core G qt qn qd qh ow m w bw aw S) : cQ l G yX1_goOn cX1_goOn 2 (some FieldType.boolean) rm_X1_goOn [.ref (qh 4), .ref (qn 5)] m (mQi G (fun r m' => (aw = [] ∧ r = 0 ∧ m' = m) ∨ (∃ a0 v, aw = a0 ++ [v] ∧ r = 1 ∧ CoreP G qt qn qd qh ow m S m' v (bw ++ [w]) a0))) := by
  obtain ⟨stt, stn, std, fb, fa, bs, as, hT, hn, hw, hd, hS, hb, ha, hx, hk, rfl⟩ := hC
  refine (c_X1_goOn hn hS (fun j => (hx j).1) (fun j => (hx j).2.1)).mono (mQi.mono (fun r m' hp => ?_))
  rcases hp with ⟨h1, h2, h3⟩ | ⟨s0, y, h1, h2, ow1, fd1, x, h3, h4, h5, h6⟩
  · exact Or.inl ⟨ha.ne.mp h1, h2, h3⟩
  · subst h1
    obtain ⟨w0, v, e1, e2, e3⟩ := ha.split
    exact Or.inr ⟨w0, v, e1, h2, core_of hT hn hd hS hx hk (fun r z => Or.inl z) h3 h6 h4 (h6.1.1 _ _ _ (fun z => z.elim (HR.neW hS hd (fun j => (hx j).2.2.1) (fun j => (hx j).2.2.2)) hk.2.2.2) hd) (e3.same h5) (hb.snoc hw) e2⟩
end CORE
