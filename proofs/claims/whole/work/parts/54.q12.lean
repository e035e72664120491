/-! questions: ways, the reference's search -/
def onB (w : Wd) (a b : Nat) : Bool := if w.1 ≤ a then (if w.1 ≤ b then false else tb (wl w.2 (a - w.1)) b) else (if b < w.1 then false else tb (wl w.2 (b - w.1)) a)
def nod (w : Wd) : Nat := w.1 + w.2.length
/-- reached in so many steps -/
def Rn (w : Wd) (s : Nat) : Nat → Nat → Prop
  | 0, b => b = s
  | j + 1, b => Rn w s j b ∨ (b < nod w ∧ ∃ a, a < nod w ∧ Rn w s j a ∧ onB w a b = true)
theorem Rn.up {w : Wd} {s b : Nat} {i : Nat} (h : Rn w s i b) : ∀ {j}, i ≤ j → Rn w s j b := by
  intro j
  induction j with
  | zero => intro hj; rw [show (0 : Nat) = i by omega]; exact h
  | succ j ih =>
    intro hj
    rcases Nat.lt_or_ge j i with q | q
    · rw [show j + 1 = i by omega]; exact h
    · exact Or.inl (ih q)
section BFS
variable {st : OS} {w : Wd}
theorem isOn_12 (h : RWo st w.1 w.2) {a b : Nat} (ha : a < nod w) (hb : b < nod w) : f_X12_isOn st (nI a) (nI b) = some (b2i (onB w a b)) := by
  have hn := h.2.2.1
  have hm := h.2.2.2.1
  unfold nod at ha hb
  unfold f_X12_isOn onB
  rw [h.1]
  by_cases c : w.1 ≤ a
  · rw [if_pos (nI_le c (by omega)), if_pos c]
    by_cases d : w.1 ≤ b
    · rw [if_pos (nI_le d (by omega)), if_pos d]; rfl
    · rw [if_neg (nI_ge (by omega) (by omega)), if_neg d, pk_sub c, if_pos (inb_t (by omega) (by omega)), nI_clamp (by omega), h.2.2.2.2 _ (by omega), has_12 (by omega), ob_s]
      cases tb (wl w.2 (a - w.1)) b with
      | true => rw [if_neg b2t]; rfl
      | false => rw [if_pos b2f]; rfl
  · rw [if_neg (nI_ge (by omega) (by omega)), if_neg c]
    by_cases d : b < w.1
    · rw [if_pos (nI_lt d (by omega)), if_pos d]; rfl
    · rw [if_neg (nI_nlt (by omega) (by omega)), if_neg d, pk_sub (by omega), if_pos (inb_t (by omega) (by omega)), nI_clamp (by omega), h.2.2.2.2 _ (by omega), has_12 (by omega), ob_s]
      cases tb (wl w.2 (b - w.1)) a with
      | true => rw [if_neg b2t]; rfl
      | false => rw [if_pos b2f]; rfl
/-- the search so far: e nodes in a row, i of them looked at -/
def BF (w : Wd) (s : Nat) (y : OS) (i e : Nat) (qn qd : Nat → Nat) : Prop := (e ≤ nod w) ∧ (0 < e) ∧ (qn 0 = s) ∧ (∀ q, q < e → y.2.2.1 29 q = nI (qn q)) ∧ (∀ q, q < e → qn q < nod w) ∧ (∀ q, q < e → y.2.2.1 27 (qn q) = nI (qd q)) ∧ (∀ q, q < e → y.2.2.1 28 (qn q) = -1 ∨ ∃ k, k < e ∧ y.2.2.1 28 (qn q) = nI (qn k)) ∧ (∀ q k, q < e → k < e → qn q = qn k → q = k) ∧ (∀ b, b < nod w → (∀ q, q < e → qn q ≠ b) → y.2.2.1 27 b = -1) ∧ (∀ q, q < e → Rn w s (qd q) (qn q) ∧ ∀ j, j < qd q → ¬ Rn w s j (qn q)) ∧ (∀ q k, q ≤ k → k < e → qd q ≤ qd k) ∧ (i < e → ∀ q, q < e → qd q ≤ qd i + 1) ∧ (∀ q, q < i → ∀ b, b < nod w → onB w (qn q) b = true → ∃ k, k < e ∧ qn k = b) ∧ (∀ q, q < e → qd q ≤ q) ∧ (i ≤ e)
section BFP
variable {w : Wd} {s i e : Nat} {y : OS} {qn qd : Nat → Nat}
theorem BF.he (B : BF w s y i e qn qd) : e ≤ nod w := B.1
theorem BF.h0 (B : BF w s y i e qn qd) : 0 < e := B.2.1
theorem BF.hs (B : BF w s y i e qn qd) : qn 0 = s := B.2.2.1
theorem BF.hr (B : BF w s y i e qn qd) : ∀ q, q < e → y.2.2.1 29 q = nI (qn q) := B.2.2.2.1
theorem BF.hn (B : BF w s y i e qn qd) : ∀ q, q < e → qn q < nod w := B.2.2.2.2.1
theorem BF.ha (B : BF w s y i e qn qd) : ∀ q, q < e → y.2.2.1 27 (qn q) = nI (qd q) := B.2.2.2.2.2.1
theorem BF.hb (B : BF w s y i e qn qd) : ∀ q, q < e → y.2.2.1 28 (qn q) = -1 ∨ ∃ k, k < e ∧ y.2.2.1 28 (qn q) = nI (qn k) := B.2.2.2.2.2.2.1
theorem BF.hi (B : BF w s y i e qn qd) : ∀ q k, q < e → k < e → qn q = qn k → q = k := B.2.2.2.2.2.2.2.1
theorem BF.hz (B : BF w s y i e qn qd) : ∀ b, b < nod w → (∀ q, q < e → qn q ≠ b) → y.2.2.1 27 b = -1 := B.2.2.2.2.2.2.2.2.1
theorem BF.hc (B : BF w s y i e qn qd) : ∀ q, q < e → Rn w s (qd q) (qn q) ∧ ∀ j, j < qd q → ¬ Rn w s j (qn q) := B.2.2.2.2.2.2.2.2.2.1
theorem BF.hm (B : BF w s y i e qn qd) : ∀ q k, q ≤ k → k < e → qd q ≤ qd k := B.2.2.2.2.2.2.2.2.2.2.1
theorem BF.h1 (B : BF w s y i e qn qd) : i < e → ∀ q, q < e → qd q ≤ qd i + 1 := B.2.2.2.2.2.2.2.2.2.2.2.1
theorem BF.hp (B : BF w s y i e qn qd) : ∀ q, q < i → ∀ b, b < nod w → onB w (qn q) b = true → ∃ k, k < e ∧ qn k = b := B.2.2.2.2.2.2.2.2.2.2.2.2.1
theorem BF.hq (B : BF w s y i e qn qd) : ∀ q, q < e → qd q ≤ q := B.2.2.2.2.2.2.2.2.2.2.2.2.2.1
theorem BF.hie (B : BF w s y i e qn qd) : i ≤ e := B.2.2.2.2.2.2.2.2.2.2.2.2.2.2
end BFP
theorem BF.full {s : Nat} {y : OS} {i e : Nat} {qn qd : Nat → Nat} (B : BF w s y i e qn qd) {D : Nat} (hD : ∀ q, q < e → qd q < D → q < i) : ∀ j, j ≤ D → ∀ b, Rn w s j b → ∃ k, k < e ∧ qn k = b := by
  intro j
  induction j with
  | zero => intro _ b hb; exact ⟨0, B.h0, B.hs.trans hb.symm⟩
  | succ j ih =>
    intro hj b hb
    rcases hb with hb | ⟨hb, a, ha, h1, h2⟩
    · exact ih (by omega) b hb
    · obtain ⟨k, hk, e1⟩ := ih (by omega) a h1
      subst e1
      have h3 : qd k ≤ j := by
        rcases Nat.lt_or_ge j (qd k) with q | q
        · exact absurd h1 ((B.hc k hk).2 j q)
        · exact q
      exact B.hp k (hD k hk (by omega)) b hb h2
theorem BF.fullAt {s : Nat} {y : OS} {i e : Nat} {qn qd : Nat → Nat} (B : BF w s y i e qn qd) (hie : i < e) : ∀ j, j ≤ qd i → ∀ b, Rn w s j b → ∃ k, k < e ∧ qn k = b :=
  B.full (fun q hq h => by
    rcases Nat.lt_or_ge q i with c | c
    · exact c
    · have := B.hm i q c hq; omega)
def upN (f : Nat → Nat) (e v : Nat) (q : Nat) : Nat := if q = e then v else f q
theorem BF.add {s : Nat} {y z : OS} {i e b : Nat} {qn qd : Nat → Nat} (B : BF w s y i e qn qd) (hie : i < e) (hb : b < nod w) (hon : onB w (qn i) b = true) (hnew : ∀ q, q < e → qn q ≠ b) (hin : e < nod w) (e27 : ∀ k, z.2.2.1 27 k = if k = b then nI (qd i + 1) else y.2.2.1 27 k) (e28 : ∀ k, z.2.2.1 28 k = if k = b then nI (qn i) else y.2.2.1 28 k) (e29 : ∀ k, z.2.2.1 29 k = if k = e then nI b else y.2.2.1 29 k) : BF w s z i (e + 1) (upN qn e b) (upN qd e (qd i + 1)) := by
  have hlt : ∀ {f : Nat → Nat} {v q : Nat}, q < e → upN f e v q = f q := fun {f v q} h => if_neg (by omega)
  have heq : ∀ {f : Nat → Nat} {v : Nat}, upN f e v e = v := if_pos rfl
  refine ⟨?_, ?_, ?_, ?_, ?_, ?_, ?_, ?_, ?_, ?_, ?_, ?_, ?_, ?_, ?_⟩
  · omega
  · omega
  · rw [hlt B.h0]; exact B.hs
  · intro q hq
    rw [e29]
    by_cases c : q = e
    · rw [if_pos c, c, heq]
    · rw [if_neg c, hlt (by omega)]; exact B.hr q (by omega)
  · intro q hq
    by_cases c : q = e
    · rw [c, heq]; exact hb
    · rw [hlt (by omega)]; exact B.hn q (by omega)
  · intro q hq
    rw [e27]
    by_cases c : q = e
    · rw [c, heq, heq, if_pos rfl]
    · rw [hlt (by omega), hlt (by omega), if_neg (hnew q (by omega))]; exact B.ha q (by omega)
  · intro q hq
    rw [e28]
    by_cases c : q = e
    · rw [c, heq, if_pos rfl]
      exact Or.inr ⟨i, by omega, by rw [hlt hie]⟩
    · rw [hlt (by omega), if_neg (hnew q (by omega))]
      rcases B.hb q (by omega) with h | ⟨k, hk, h⟩
      · exact Or.inl h
      · exact Or.inr ⟨k, by omega, by rw [hlt hk]; exact h⟩
  · intro q k hq hk h
    by_cases c : q = e <;> by_cases d : k = e
    · omega
    · rw [c, heq, hlt (by omega)] at h
      exact absurd h.symm (hnew k (by omega))
    · rw [d, heq, hlt (by omega)] at h
      exact absurd h (hnew q (by omega))
    · rw [hlt (by omega), hlt (by omega)] at h
      exact B.hi q k (by omega) (by omega) h
  · intro k hk h
    have h1 := h e (by omega)
    rw [heq] at h1
    rw [e27, if_neg (fun z => h1 z.symm)]
    exact B.hz k hk (fun q hq => by have := h q (by omega); rw [hlt hq] at this; exact this)
  · intro q hq
    by_cases c : q = e
    · rw [c, heq, heq]
      refine ⟨Or.inr ⟨hb, qn i, B.hn i hie, (B.hc i hie).1, hon⟩, fun j hj hR => ?_⟩
      obtain ⟨k, hk, ek⟩ := B.fullAt hie j (by omega) b hR
      exact hnew k hk ek
    · rw [hlt (by omega), hlt (by omega)]
      exact B.hc q (by omega)
  · intro q k hqk hk
    by_cases d : k = e
    · rw [d, heq]
      by_cases c : q = e
      · rw [c, heq]; exact Nat.le_refl _
      · rw [hlt (by omega)]; exact B.h1 hie q (by omega)
    · rw [hlt (by omega), hlt (by omega)]
      exact B.hm q k hqk (by omega)
  · intro _ q hq
    rw [hlt hie]
    by_cases c : q = e
    · rw [c, heq]; exact Nat.le_refl _
    · rw [hlt (by omega)]; exact B.h1 hie q (by omega)
  · intro q hq c hc h
    rw [hlt (by omega)] at h
    obtain ⟨k, hk, e⟩ := B.hp q hq c hc h
    exact ⟨k, by omega, by rw [hlt hk]; exact e⟩
  · intro q hq
    by_cases c : q = e
    · rw [c, heq]
      have := B.hq i hie
      omega
    · rw [hlt (by omega)]; exact B.hq q (by omega)
  · omega
/-- distances from a node -/
def DIST (w : Wd) (s : Nat) (a : Nat → Int32) : Prop := ∀ b, b < nod w → (∃ d, d < 128 ∧ a b = nI d ∧ Rn w s d b ∧ ∀ j, j < d → ¬ Rn w s j b) ∨ (a b = -1 ∧ ∀ j, ¬ Rn w s j b)
theorem BF.dist {s : Nat} {y : OS} {e : Nat} {qn qd : Nat → Nat} (B : BF w s y e e qn qd) (hN : nod w ≤ 128) : DIST w s (y.2.2.1 27) := by
  intro b hb
  by_cases c : ∃ k, k < e ∧ qn k = b
  · obtain ⟨k, hk, rfl⟩ := c
    have := B.hq k hk
    have := B.he
    exact Or.inl ⟨qd k, by omega, B.ha k hk, B.hc k hk⟩
  · exact Or.inr ⟨B.hz b hb (fun q hq z => c ⟨q, hq, z⟩), fun j hj => c (B.full (D := j) (fun q hq _ => hq) j (Nat.le_refl _) b hj)⟩
theorem lays_in (h : RWo st w.1 w.2) {s i e : Nat} {qn qd : Nat → Nat} (B : BF w s st i e qn qd) (hie : i < e) (v : Int32) : ∃ y v' e' qn' qd', lpv (f_X12_lays_78 (nI (nod w)) (nI i) (nI (qn i))) (st, v, nI e, 0) = some (y, v', nI e') ∧ Kp st y ∧ BF w s y (i + 1) e' qn' qd' := by
  have hn := h.2.2.1
  have hm := h.2.2.2.1
  have hN : nod w ≤ 128 := by unfold nod; omega
  have key := lpv_inv (f := f_X12_lays_78 (nI (nod w)) (nI i) (nI (qn i))) (fun b z => z.2.2.2 = nI b ∧ Kp st z.1 ∧ ∃ e' qn' qd', z.2.2.1 = nI e' ∧ e ≤ e' ∧ qn' i = qn i ∧ BF w s z.1 i e' qn' qd' ∧ ∀ c, c < b → onB w (qn i) c = true → ∃ k, k < e' ∧ qn' k = c) (nod w) (fun r => Kp st r.1 ∧ ∃ e' qn' qd', r.2.2 = nI e' ∧ BF w s r.1 (i + 1) e' qn' qd') (fun b z hb hI => Or.inl ?_) (fun z hI => ?_) 0 (st, v, nI e, 0) (Nat.zero_le _) ⟨rfl, Keep.rf, e, qn, qd, rfl, Nat.le_refl _, rfl, B, fun c hc => by omega⟩
  · obtain ⟨⟨y, v', c⟩, e1, e2, e', qn', qd', e3, e4⟩ := key
    have e3 : c = nI e' := e3
    subst e3
    exact ⟨y, v', e', qn', qd', e1, e2, e4⟩
  · obtain ⟨y, v, c, d⟩ := z
    obtain ⟨g1, g2, e', qn', qd', g3, g4, g5, g6, g7⟩ := hI
    dsimp only at g1 g2 g3 g6
    subst g1 g3
    have hy := h.kp g2
    have hie' : i < e' := by omega
    have hqi : qn i < nod w := B.hn i hie
    have stay : (onB w (qn i) b = true → ∃ k, k < e' ∧ qn' k = b) → ∀ u : Int32, ∃ s' : OS × Int32 × Int32 × Int32, (some (.inl (y, u, nI e', nI (b + 1))) : Option ((OS × Int32 × Int32 × Int32) ⊕ (OS × Int32 × Int32))) = some (.inl s') ∧ (s'.2.2.2 = nI (b + 1) ∧ Kp st s'.1 ∧ ∃ e' qn' qd', s'.2.2.1 = nI e' ∧ e ≤ e' ∧ qn' i = qn i ∧ BF w s s'.1 i e' qn' qd' ∧ ∀ c, c < b + 1 → onB w (qn i) c = true → ∃ k, k < e' ∧ qn' k = c) := fun hb2 u => by
      refine ⟨_, rfl, rfl, g2, e', qn', qd', rfl, g4, g5, g6, fun c hc hon => ?_⟩
      rcases Nat.lt_or_ge c b with q | q
      · exact g7 c q hon
      · rw [show c = b by omega] at hon ⊢
        exact hb2 hon
    unfold f_X12_lays_78
    dsimp only
    rw [if_neg (nI_ge hb (by omega)), isOn_12 hy hqi hb, ob_s]
    cases hon : onB w (qn i) b with
    | false =>
      rw [if_pos b2f]
      dsimp only [bnd]
      rw [nI_1]
      exact stay (fun z => by rw [hon] at z; cases z) v
    | true =>
      rw [if_neg b2t, if_pos (inb_t (by omega) (by omega)), nI_clamp (by omega), nI_clamp (by omega)]
      have hby := g6.hb i hie'
      rw [g5] at hby
      have hai := g6.ha i hie'
      rw [g5] at hai
      by_cases hbb : nI b = y.2.2.1 28 (qn i)
      · rw [if_pos hbb]
        dsimp only [bnd]
        rw [nI_1]
        refine stay (fun _ => ?_) v
        rcases hby with z | ⟨k, hk, z⟩
        · rw [z] at hbb
          exact absurd hbb (nI_m1 (by omega))
        · rw [z] at hbb
          have hk2 := g6.hn k hk
          refine ⟨k, hk, ?_⟩
          false_or_by_contra
          rename_i hne
          exact nI_neq (a := b) (b := qn' k) (by omega) (by omega) (fun q => hne q.symm) hbb
      · rw [if_neg hbb, if_pos (inb_t (by omega) (by omega))]
        by_cases hin : ∃ k, k < e' ∧ qn' k = b
        · have hne : ¬ y.2.2.1 27 b = -1 := by
            obtain ⟨k, hk, rfl⟩ := hin
            rw [g6.ha k hk]
            have := g6.hq k hk
            have := g6.he
            exact nI_m1 (by omega)
          rw [if_neg hne]
          dsimp only [bnd]
          rw [nI_1]
          by_cases hv : v = -1
          · rw [if_pos hv]
            exact stay (fun _ => hin) _
          · rw [if_neg hv]
            split
            · exact stay (fun _ => hin) _
            · exact stay (fun _ => hin) _
        · have hnew : ∀ q, q < e' → qn' q ≠ b := fun q hq z => hin ⟨q, hq, z⟩
          have hz := g6.hz b hb hnew
          have hlt : e' < nod w := by
            have h1 : cnt (fun _ => true) (e' + 1) ≤ cnt (fun _ => true) (nod w) := cnt_rel (R := fun q c => upN qn' e' b q = c) (e' + 1) _ (fun q hq _ => ⟨upN qn' e' b q, by
              unfold upN
              by_cases c : q = e'
              · rw [if_pos c]; exact hb
              · rw [if_neg c]; exact g6.hn q (by omega), rfl, rfl⟩) (fun q k j hq hk _ _ h1 h2 => by
                have h3 := h1.trans h2.symm
                unfold upN at h3
                by_cases c : q = e' <;> by_cases d : k = e'
                · omega
                · rw [if_pos c, if_neg d] at h3
                  exact absurd h3.symm (hnew k (by omega))
                · rw [if_neg c, if_pos d] at h3
                  exact absurd h3 (hnew q (by omega))
                · rw [if_neg c, if_neg d] at h3
                  exact g6.hi q k (by omega) (by omega) h3)
            have h2 : ∀ n, cnt (fun _ => true) n = n := fun n => by
              induction n with
              | zero => rfl
              | succ n ih => rw [cnt_s, ih]; rfl
            rw [h2, h2] at h1
            omega
          rw [if_pos hz, hai]
          dsimp only [bnd]
          rw [nI_1, nI_1, nI_1, if_pos (inb_t (by omega) (by omega)), nI_clamp (by omega)]
          refine ⟨_, rfl, rfl, Keep.oA (Keep.oA (Keep.oA g2 rfl) rfl) rfl, e' + 1, _, _, rfl, by omega, ?_, BF.add g6 hie' hb (by rw [g5]; exact hon) hnew hlt (fun k => ?_) (fun k => ?_) (fun k => ?_), fun c hc hon2 => ?_⟩
          · unfold upN
            rw [if_neg (by omega)]
            exact g5
          · rw [oA_ne _ (by decide), oA_ne _ (by decide), oA_self]
            rfl
          · rw [oA_ne _ (by decide), oA_self, oA_ne _ (by decide), g5]
            rfl
          · rw [oA_self, oA_ne _ (by decide), oA_ne _ (by decide)]
            rfl
          · rcases Nat.lt_or_ge c b with q | q
            · obtain ⟨k, hk, ek⟩ := g7 c q hon2
              exact ⟨k, by omega, by unfold upN; rw [if_neg (by omega)]; exact ek⟩
            · exact ⟨e', by omega, by unfold upN; rw [if_pos rfl]; omega⟩
  · obtain ⟨y, v, c, d⟩ := z
    obtain ⟨g1, g2, e', qn', qd', g3, g4, g5, g6, g7⟩ := hI
    dsimp only at g1 g2 g3 g6
    subst g1 g3
    refine ⟨(y, v, nI e'), ?_, g2, e', qn', qd', rfl, ⟨g6.he, g6.h0, g6.hs, g6.hr, g6.hn, g6.ha, g6.hb, g6.hi, g6.hz, g6.hc, g6.hm, fun hi q hq => ?_, fun q hq c hc hon => ?_, g6.hq, by omega⟩⟩
    · unfold f_X12_lays_78
      dsimp only
      rw [if_pos (nI_le (Nat.le_refl _) (by omega))]
    · have h1 := g6.h1 (by omega) q hq
      have h2 := g6.hm i (i + 1) (by omega) hi
      omega
    · rcases Nat.lt_or_ge q i with z | z
      · exact g6.hp q z c hc hon
      · rw [show q = i by omega, g5] at hon
        exact g7 c hc hon
theorem lays_12 (h : RWo st w.1 w.2) {s : Nat} (hs : s < nod w) : ∃ v x, f_X12_lays st (nI s) = some (v, x) ∧ Kp st x ∧ DIST w s (x.2.2.1 27) := by
  have hn := h.2.2.1
  have hm := h.2.2.2.1
  have hN : nod w ≤ 128 := by unfold nod; omega
  have hsum : (st.1 0) + (st.1 1) = nI (nod w) := by rw [h.1, h.2.1, nI_add]; rfl
  have k1 := lpv_inv (f := f_X12_lays_12 (nI s) (nI (nod w))) (fun i z => z.2 = nI i ∧ Kp st z.1 ∧ ∀ b, b < i → z.1.2.2.1 27 b = -1) (nod w) (fun x => Kp st x ∧ ∀ b, b < nod w → x.2.2.1 27 b = -1) (fun i z hi hI => Or.inl ?_) (fun z hI => ?_) 0 (st, 0) (Nat.zero_le _) ⟨rfl, Keep.rf, fun b hb => by omega⟩
  · obtain ⟨x, e1, e2, e3⟩ := k1
    generalize hT : oA (oA (oA x 27 (upd (x.2.2.1 27) s 0)) 28 (upd ((oA x 27 (upd (x.2.2.1 27) s 0)).2.2.1 28) s (-1))) 29 (upd ((oA (oA x 27 (upd (x.2.2.1 27) s 0)) 28 (upd ((oA x 27 (upd (x.2.2.1 27) s 0)).2.2.1 28) s (-1))).2.2.1 29) 0 (nI s)) = t
    have kt : Kp st t := by rw [← hT]; exact Keep.oA (Keep.oA (Keep.oA e2 rfl) rfl) rfl
    have t27 : ∀ k, t.2.2.1 27 k = if k = s then 0 else x.2.2.1 27 k := fun k => by
      rw [← hT, oA_ne _ (by decide), oA_ne _ (by decide), oA_self]; rfl
    have t28 : t.2.2.1 28 s = -1 := by
      rw [← hT, oA_ne _ (by decide), oA_self]; exact if_pos rfl
    have t29 : t.2.2.1 29 0 = nI s := by
      rw [← hT, oA_self]; exact if_pos rfl
    have B0 : BF w s t 0 1 (fun _ => s) (fun _ => 0) := by
      refine ⟨by omega, by omega, rfl, fun q hq => ?_, fun _ _ => hs, fun q hq => ?_, fun q hq => Or.inl t28, fun q k hq hk _ => by omega, fun b hb hne => ?_, fun q hq => ⟨rfl, fun j hj => absurd hj (Nat.not_lt_zero _)⟩, fun _ _ _ _ => Nat.le_refl _, fun _ _ _ => Nat.zero_le _, fun q hq => by omega, fun q hq => Nat.zero_le _, by omega⟩
      · rw [show q = 0 by omega]; exact t29
      · rw [t27, if_pos rfl]; rfl
      · rw [t27, if_neg (fun z => hne 0 (by omega) z.symm)]
        exact e3 b hb
    have k2 := lpv_mea (f := f_X12_lays_59 (nI (nod w))) (fun z => Kp st z.1 ∧ ∃ i e qn qd, z.2.2.2 = nI i ∧ z.2.2.1 = nI e ∧ BF w s z.1 i e qn qd) (fun z => 200 - z.2.2.2.toNatClampNeg) (fun r => Kp st r.1 ∧ DIST w s (r.1.2.2.1 27)) (fun z hI => ?_) (t, -1, 1, 0) ⟨kt, 0, 1, _, _, rfl, rfl, B0⟩
    · obtain ⟨⟨y, v⟩, f1, f2, f3⟩ := k2
      refine ⟨v, y, ?_, f2, f3⟩
      unfold f_X12_lays
      rw [hsum]
      dsimp only [bnd]
      rw [e1, ob_s, if_pos (inb_t (by omega) (by omega)), nI_clamp (by omega), if_pos (show inb (0 : Int32) 128 = true from inb_t (j := 0) (by omega) (by omega)), show (0 : Int32).toNatClampNeg = 0 from rfl, hT, f1, ob_s]
    · obtain ⟨y, v, c, d⟩ := z
      obtain ⟨g1, i, e, qn, qd, g2, g3, B⟩ := hI
      dsimp only at g1 g2 g3 B
      subst g2 g3
      have hie := B.hie
      have hle := B.he
      rcases Nat.lt_or_ge i e with q | q
      · obtain ⟨y', v', e', qn', qd', f1, f2, f3⟩ := lays_in (h.kp g1) B q v
        left
        refine ⟨(y', v', nI e', nI (i + 1)), ?_, ⟨Keep.tr g1 f2, i + 1, e', qn', qd', rfl, rfl, f3⟩, ?_⟩
        · unfold f_X12_lays_59
          dsimp only
          rw [if_neg (nI_ge q (by omega)), if_pos (inb_t (by omega) (by omega)), nI_clamp (by omega), B.hr i q]
          dsimp only [bnd]
          rw [f1, ob_s]
          dsimp only
          rw [nI_1]
        · dsimp only
          rw [nI_clamp (by omega), nI_clamp (by omega)]
          omega
      · right
        have : i = e := by omega
        subst this
        refine ⟨(y, v), ?_, g1, B.dist hN⟩
        unfold f_X12_lays_59
        dsimp only
        rw [if_pos (nI_le (Nat.le_refl _) (by omega))]
  · obtain ⟨x, b⟩ := z
    obtain ⟨e1, e2, e3⟩ := hI
    dsimp only at e1 e2 e3
    subst e1
    refine ⟨(oA x 27 (upd (x.2.2.1 27) i (-1)), nI (i + 1)), ?_, rfl, Keep.oA e2 rfl, fun b hb => ?_⟩
    · unfold f_X12_lays_12
      dsimp only
      rw [if_neg (nI_ge hi (by omega)), if_pos (inb_t (by omega) (by omega)), nI_clamp (by omega)]
      simp only [bnd, nI_1]
    · dsimp only
      rw [oA_self]
      unfold upd
      by_cases q : b = i
      · rw [if_pos q]
      · rw [if_neg q]; exact e3 b (by omega)
  · obtain ⟨x, b⟩ := z
    obtain ⟨e1, e2, e3⟩ := hI
    dsimp only at e1 e2 e3
    subst e1
    refine ⟨x, ?_, e2, e3⟩
    unfold f_X12_lays_12
    dsimp only
    rw [if_pos (nI_le (Nat.le_refl _) (by omega))]
end BFS
