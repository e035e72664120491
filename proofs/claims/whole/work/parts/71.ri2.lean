/-! questions: ring, the class -/
def nuC (w : Wd) (a : Nat) : Nat := if a < w.1 then a else 64 + (a - w.1)
def offC (w : Wd) (a : Nat) : Nat := if a < w.1 then w.1 else 0
def coffC (w : Wd) (a : Nat) : Nat := if a < w.1 then 64 else 0
theorem nuC_lt {w : Wd} (hn : w.1 ≤ 64) (hm : w.2.length ≤ 64) {a : Nat} (ha : a < nod w) : nuC w a < 128 := by
  unfold nuC
  unfold nod at ha
  split <;> omega
theorem nuC_inj {w : Wd} (hn : w.1 ≤ 64) {a b : Nat} (h : nuC w a = nuC w b) : a = b := by
  unfold nuC at h
  split at h <;> split at h <;> omega
/-- the nodes beside one: behind the offset -/
theorem on_off {w : Wd} (hn : w.1 ≤ 64) (hm : w.2.length ≤ 64) {a b : Nat} (h : onB w a b = true) : ∃ j, j < 64 ∧ b = offC w a + j ∧ nuC w b = coffC w a + j := by
  unfold offC coffC nuC
  rcases on_lt h with ⟨h1, h2, h3⟩ | ⟨h1, h2, h3⟩
  · rw [if_neg (show ¬ a < w.1 by omega), if_neg (show ¬ a < w.1 by omega), if_pos h2]
    exact ⟨b, by omega, by omega, by omega⟩
  · rw [if_pos h1, if_pos h1, if_neg (by omega)]
    unfold nod at h3
    exact ⟨b - w.1, by omega, by omega, by omega⟩
section RING9
variable {st stn : OS} {w : Wd}
/-- a node is reached from another -/
theorem rg_step (hn : w.1 ≤ 64) (hm : w.2.length ≤ 64) {y : OS} {s L i m e V : Nat} {qn qd qb : Nat → Nat} (hL : L ≤ 1000) (S : ST w s L i m e qn qd qb V) (H : AR (nuC w) (y.2.2.1 3) (y.2.2.1 4) (y.2.2.1 5) w s e qn qd qb) (h6 : y.1 6 = nI e) (hie : i < e) (ho : onB w (qn i) m = true) :
    (nI (nuC w m) = y.2.2.1 4 (nuC w (qn i)) ∧ ST w s L i (m + 1) e qn qd qb V) ∨ (¬ nI (nuC w m) = y.2.2.1 4 (nuC w (qn i)) ∧ ∃ u y' V' e' qn' qd' qb', f_X9_reach y (nI (nuC w m)) (nI (nuC w (qn i))) = some (nI u, y') ∧ (if nI u < nI V then nI u else nI V) = nI V' ∧ y'.1 6 = nI e' ∧ qn' i = qn i ∧ i < e' ∧ ST w s L i (m + 1) e' qn' qd' qb' V' ∧ AR (nuC w) (y'.2.2.1 3) (y'.2.2.1 4) (y'.2.2.1 5) w s e' qn' qd' qb') := by
  have hN : nod w ≤ 128 := by unfold nod; omega
  have hmn := on_r ho
  have l1 := nuC_lt hn hm hmn
  have l2 := nuC_lt hn hm (S.1.hn i hie)
  have hV := S.2.2.2
  have hA : ∀ q, q < e → y.2.2.1 3 (nuC w (qn q)) = nI (qd q) := H.2.1
  by_cases hp : 0 < i ∧ m = qn (qb i)
  · obtain ⟨p1, p2⟩ := hp
    have hb2 := S.1.hb i p1 hie
    left
    refine ⟨?_, S.seen (k := qb i) (v' := V) (by omega) p2 (Or.inl ⟨p1, rfl⟩) (Nat.le_refl _) S.2.2.1⟩
    rw [H.2.2.2.1 i p1 hie, p2]
  · right
    refine ⟨fun z => ?_, ?_⟩
    · rcases Nat.eq_zero_or_pos i with q | q
      · have h28 := H.2.2.1
        have hs0 := S.1.hs
        rw [← q] at hs0
        rw [hs0, h28] at z
        exact nI_m1 (by omega) z
      · have h28 := H.2.2.2.1 i q hie
        have hb2 := S.1.hb i q hie
        have hlt := nuC_lt hn hm (S.1.hn (qb i) (by omega))
        rw [h28] at z
        exact hp ⟨q, nuC_inj hn ((nI_eq (by omega) (by omega)).mp z)⟩
    · by_cases hin : ∃ k, k < e ∧ qn k = m
      · obtain ⟨k, hk, rfl⟩ := hin
        obtain ⟨D, D1, D2⟩ := S.ring hie hk rfl ho (fun z => hp ⟨z.1, by rw [z.2]⟩)
        have q1 := S.1.qdle i hie
        have q2 := S.1.qdle k hk
        have q3 := S.1.en
        refine ⟨qd i + qd k + 1, y, if qd i + qd k + 1 < V then qd i + qd k + 1 else V, e, qn, qd, qb, ?_, ?_, h6, rfl, hie, S.seen hk rfl (Or.inr ?_) ?_ ?_, H⟩
        · unfold f_X9_reach
          rw [if_pos (inb_t (by omega) (by omega)), nI_clamp (by omega), hA k hk, if_neg (nI_m1 (by omega)), if_pos (inb_t (by omega) (by omega)), nI_clamp (by omega), hA i hie, nI_add, nI_1]
        · by_cases c : qd i + qd k + 1 < V
          · rw [if_pos c, if_pos (nI_lt c (by omega))]
          · rw [if_neg c, if_neg (nI_nlt (by omega) (by omega))]
        · split <;> omega
        · split <;> omega
        · split
          · exact Or.inr ⟨D, D1, D2⟩
          · exact S.2.2.1
      · have hnew : ∀ q, q < e → qn q ≠ m := fun q hq z => hin ⟨q, hq, z⟩
        have hz : y.2.2.1 3 (nuC w m) = -1 := H.2.2.2.2 m hmn hnew
        have S2 := S.add hie ho hnew
        have hlt := S2.1.en
        refine ⟨1000, oI (oA (oA (oA y 3 (upd (y.2.2.1 3) (nuC w m) (nI (qd i + 1)))) 4 (upd (y.2.2.1 4) (nuC w m) (nI (nuC w (qn i))))) 5 (upd (y.2.2.1 5) e (nI (nuC w m)))) 6 (nI (e + 1)), V, e + 1, _, _, _, ?_, ?_, oI_self _ _ _, ?_, by omega, S2, AR.add S H (fun _ _ _ _ z => nuC_inj hn z) hie hmn hnew (fun k => ?_) (fun k => ?_) (fun k => ?_)⟩
        · unfold f_X9_reach
          rw [if_pos (inb_t (by omega) (by omega)), nI_clamp (by omega), if_pos hz, h6, if_neg (show ¬ (128 : Int32) ≤ nI e from nI_ge (a := e) (b := 128) (by omega) (by decide)), if_pos (inb_t (by omega) (by omega)), nI_clamp (by omega), hA i hie]
          dsimp only [bnd]
          rw [oA_ne _ (by decide), oA_1, oA_1, h6, if_pos (inb_t (by omega) (by omega)), nI_clamp (by omega), oA_ne _ (by decide), oA_ne _ (by decide), oA_1, oA_1, oA_1, h6, nI_1, nI_1]
          rfl
        · rw [if_neg (show ¬ nI 1000 < nI V from nI_nlt (by omega) (by decide))]
        · unfold upN
          rw [if_neg (by omega)]
        · rw [oI_2, oA_ne _ (by decide), oA_ne _ (by decide), oA_self]
          rfl
        · rw [oI_2, oA_ne _ (by decide), oA_self]
          rfl
        · rw [oI_2, oA_self]
          rfl
/-- what is left of the nodes beside one -/
def RST (w : Wd) (a m : Nat) (x : Int64) : Prop := ∀ j, j < 64 → tb x j = (onB w a (offC w a + j) && decide (m ≤ offC w a + j))
theorem RST.nil {a m : Nat} (hn : w.1 ≤ 64) (hm : w.2.length ≤ 64) (h : RST w a m 0) : ∀ b, m ≤ b → onB w a b = false := by
  intro b hb
  cases ho : onB w a b with
  | false => rfl
  | true =>
    obtain ⟨j, hj, e, -⟩ := on_off hn hm ho
    have := h j hj
    rw [tb_0, ← e, ho, decide_eq_true hb] at this
    cases this
theorem RST.lo {a m : Nat} {x : Int64} (hn : w.1 ≤ 64) (hm : w.2.length ≤ 64) (h : RST w a m x) (hx : x ≠ 0) : onB w a (offC w a + low x) = true ∧ m ≤ offC w a + low x ∧ (∀ b, m ≤ b → b < offC w a + low x → onB w a b = false) ∧ nuC w (offC w a + low x) = coffC w a + low x ∧ RST w a (offC w a + low x + 1) (x &&& (x - 1)) := by
  obtain ⟨h1, h2, h3⟩ := low_tb hx
  have h4 := h _ h2
  rw [h1] at h4
  have h5 := h4.symm
  rw [Bool.and_eq_true] at h5
  obtain ⟨h5, h6⟩ := h5
  refine ⟨h5, of_decide_eq_true h6, fun b b1 b2 => ?_, ?_, fun j hj => ?_⟩
  · cases ho : onB w a b with
    | false => rfl
    | true =>
      obtain ⟨j, hj, e, -⟩ := on_off hn hm ho
      have h7 := h j hj
      rw [h3 j (by omega), ← e, ho, decide_eq_true b1] at h7
      cases h7
  · obtain ⟨j, hj, e, e2⟩ := on_off hn hm h5
    rw [e2]
    omega
  · rw [tb_clr hx, h j hj]
    cases ho : onB w a (offC w a + j) with
    | false => rfl
    | true =>
      rw [Bool.true_and, Bool.true_and]
      by_cases c : j = low x
      · rw [decide_eq_false (show ¬ j ≠ low x from fun z => z c), Bool.and_false, decide_eq_false (by omega)]
      · rw [decide_eq_true c, Bool.and_true]
        by_cases d : m ≤ offC w a + j
        · have h7 := h j hj
          rw [ho, decide_eq_true d] at h7
          have : ¬ j < low x := fun z => by rw [h3 j z] at h7; cases h7
          rw [decide_eq_true d, decide_eq_true (by omega)]
        · rw [decide_eq_false d, decide_eq_false (by have := of_decide_eq_true h6; omega)]
theorem rg_in (hn : w.1 ≤ 64) (hm : w.2.length ≤ 64) (o1 : OS) (b5 : Int32) {y : OS} {s L i e V : Nat} {qn qd qb : Nat → Nat} (hL : L ≤ 1000) (S : ST w s L i 0 e qn qd qb V) (H : AR (nuC w) (y.2.2.1 3) (y.2.2.1 4) (y.2.2.1 5) w s e qn qd qb) (h6 : y.1 6 = nI e) (hie : i < e) {x : Int64} (hx : RST w (qn i) 0 x) (b7 : Int32) (h7 : b7 = if qn i < w.1 then 1 else 0) :
    ∃ y' V' e' qn' qd' qb', lpv (f_X9_ringFrom_129 o1 b5 (nI (nuC w (qn i))) b7) (y, nI V, x, 0) = some (y', nI V') ∧ y'.1 6 = nI e' ∧ ST w s L (i + 1) 0 e' qn' qd' qb' V' ∧ AR (nuC w) (y'.2.2.1 3) (y'.2.2.1 4) (y'.2.2.1 5) w s e' qn' qd' qb' := by
  have hN : nod w ≤ 128 := by unfold nod; omega
  have hp64 := pcn_le x
  have key := lpv_mea (f := f_X9_ringFrom_129 o1 b5 (nI (nuC w (qn i))) b7) (fun z => ∃ t m V' e' qn' qd' qb', z.2.2.2 = nI t ∧ t + pcn z.2.2.1 ≤ 64 ∧ z.2.1 = nI V' ∧ z.1.1 6 = nI e' ∧ i < e' ∧ qn' i = qn i ∧ ST w s L i m e' qn' qd' qb' V' ∧ AR (nuC w) (z.1.2.2.1 3) (z.1.2.2.1 4) (z.1.2.2.1 5) w s e' qn' qd' qb' ∧ RST w (qn i) m z.2.2.1) (fun z => pcn z.2.2.1) (fun r => ∃ V' e' qn' qd' qb', r.2 = nI V' ∧ r.1.1 6 = nI e' ∧ ST w s L (i + 1) 0 e' qn' qd' qb' V' ∧ AR (nuC w) (r.1.2.2.1 3) (r.1.2.2.1 4) (r.1.2.2.1 5) w s e' qn' qd' qb') (fun z hI => ?_) (y, nI V, x, 0) ⟨0, 0, V, e, qn, qd, qb, rfl, by dsimp only; omega, rfl, h6, hie, rfl, S, H, hx⟩
  · obtain ⟨⟨y', v⟩, e1, V', e', qn', qd', qb', e2, e3, e4, e5⟩ := key
    dsimp only at e2
    subst e2
    exact ⟨y', V', e', qn', qd', qb', e1, e3, e4, e5⟩
  · obtain ⟨y, v, x, c⟩ := z
    obtain ⟨t, m, V', e', qn', qd', qb', g1, g2, g3, g4, g5, g6, g7, g8, g9⟩ := hI
    dsimp only at g1 g2 g3 g4 g8 g9
    subst g1 g3
    by_cases hx0 : x = 0
    · right
      subst hx0
      refine ⟨(y, nI V'), ?_, V', e', qn', qd', qb', rfl, g4, g7.next g5 (fun b hb => ?_), g8⟩
      · unfold f_X9_ringFrom_129
        dsimp only
        rw [if_pos (show lg_cmp 0 0 = 0 from (lg_cmp_eq 0 0).mpr rfl), ite_self]
      · rw [g6]
        exact g9.nil hn hm b hb
    · left
      obtain ⟨r1, r2, r3, r4, r5⟩ := g9.lo hn hm hx0
      have hlow := (low_tb hx0).2.1
      have hpc := pcn_clr hx0
      have l1 := nuC_lt hn hm (on_r r1)
      have l2 := nuC_lt hn hm (on_l r1)
      have S1 : ST w s L i (offC w (qn i) + low x) e' qn' qd' qb' V' := g7.skip (fun b b1 b2 => by rw [g6]; exact r3 b b1 b2) r2
      have hto : (if b7 = 0 then nI (low x) + 0 else nI (low x) + 64) = nI (nuC w (offC w (qn i) + low x)) := by
        rw [r4]
        unfold coffC
        by_cases q : qn i < w.1
        · rw [h7, if_pos q, if_neg ne10, if_pos q, show (64 : Int32) = nI 64 from rfl, nI_add, Nat.add_comm]
        · rw [h7, if_neg q, if_pos rfl, if_neg q, Int32.add_zero, Nat.zero_add]
      have hst : f_X9_ringFrom_129 o1 b5 (nI (nuC w (qn i))) b7 (y, nI V', x, nI t) = if nI (nuC w (offC w (qn i) + low x)) = y.2.2.1 4 (nuC w (qn i)) then some (.inl (y, nI V', x &&& (x - 1), nI (t + 1))) else (f_X9_reach y (nI (nuC w (offC w (qn i) + low x))) (nI (nuC w (qn i)))).bind (fun z => (f_J9_min_7cf53 (nI V') z.1).bind (fun u => some (.inl (z.2, u, x &&& (x - 1), nI (t + 1))))) := by
        have ht : t < 64 := by omega
        have hif1 : ∀ {α : Type} (a b : α), (if (64 : Int32) ≤ nI t then a else b) = b := fun a b => if_neg (show ¬ (64 : Int32) ≤ nI t from nI_ge (a := t) (b := 64) ht (by decide))
        have hif2 : ∀ {α : Type} (a b : α), (if (128 : Int32) ≤ nI (nuC w (offC w (qn i) + low x)) then a else b) = b := fun a b => if_neg (show ¬ (128 : Int32) ≤ nI (nuC w (offC w (qn i) + low x)) from nI_ge (b := 128) l1 (by decide))
        unfold f_X9_ringFrom_129
        dsimp only
        rw [hif1, if_neg (fun z => hx0 ((lg_cmp_eq x 0).mp z)), ntz_13 hx0, ob_s]
        by_cases q : b7 = 0
        · rw [if_pos q] at hto
          rw [if_pos q]
          dsimp only [bnd]
          rw [hto, hif2, if_pos (inb_t (by omega) (by omega)), nI_clamp (by omega), nI_1]
        · rw [if_neg q] at hto
          rw [if_neg q]
          dsimp only [bnd]
          rw [hto, hif2, if_pos (inb_t (by omega) (by omega)), nI_clamp (by omega), nI_1]
      rcases rg_step hn hm hL S1 g8 g4 g5 (by rw [g6]; exact r1) with ⟨k1, k2⟩ | ⟨k1, u, y', V2, e2, qn2, qd2, qb2, k2, k3, k4, k5, k6, k7, k8⟩
      · rw [g6] at k1
        refine ⟨_, by rw [hst, if_pos k1], ⟨t + 1, _, V', e', qn', qd', qb', rfl, by dsimp only; omega, rfl, g4, g5, g6, k2, g8, r5⟩, by dsimp only; omega⟩
      · rw [g6] at k1 k2
        refine ⟨_, by rw [hst, if_neg k1, k2, ob_s]; dsimp only; rw [min_J9, ob_s, k3], ⟨t + 1, _, V2, e2, qn2, qd2, qb2, rfl, by dsimp only; omega, rfl, k4, k6, k5.trans g6, k7, k8, r5⟩, by dsimp only; omega⟩
theorem ringFrom_9 (hw : CW stn w) (hW : WFw w) {s L : Nat} (hs : s < w.1) (hL : L ≤ 1000) : ∃ V y, f_X9_ringFrom st stn (nI s) (nI L) = some (nI V, y) ∧ RV w s L V := by
  have hn := hw.1.2.2.1
  have hm := hw.1.2.2.2.1
  have hN : nod w ≤ 128 := by unfold nod; omega
  have hsN : s < nod w := by unfold nod; omega
  have hνs : nuC w s = s := if_pos hs
  generalize hT : oI (oA (oA (oA (oA st 3 (fillF 128 ((-1)) (st.2.2.1 3))) 5 (upd (st.2.2.1 5) 0 (nI s))) 4 (upd (st.2.2.1 4) s (-1))) 3 (upd (fillF 128 ((-1)) (st.2.2.1 3)) s 0)) 6 1 = t
  have t3 : ∀ k, t.2.2.1 3 k = if k = s then 0 else fillF 128 ((-1)) (st.2.2.1 3) k := fun k => by
    rw [← hT]
    rw [show ∀ (z : OS) (u : Int32), (oI z 6 u).2.2.1 = z.2.2.1 from fun _ _ => rfl, oA_self]; rfl
  have t4 : t.2.2.1 4 s = -1 := by
    rw [← hT]
    rw [show ∀ (z : OS) (u : Int32), (oI z 6 u).2.2.1 = z.2.2.1 from fun _ _ => rfl, oA_ne _ (by decide), oA_self]; exact if_pos rfl
  have t5 : t.2.2.1 5 0 = nI s := by
    rw [← hT]
    rw [show ∀ (z : OS) (u : Int32), (oI z 6 u).2.2.1 = z.2.2.1 from fun _ _ => rfl, oA_ne _ (by decide), oA_ne _ (by decide), oA_self]; exact if_pos rfl
  have t6 : t.1 6 = nI 1 := by rw [← hT]; exact oI_self _ _ _
  have S0 : ST w s L 0 0 1 (fun _ => s) (fun _ => 0) (fun _ => 0) L := ST.init hsN
  have H0 : AR (nuC w) (t.2.2.1 3) (t.2.2.1 4) (t.2.2.1 5) w s 1 (fun _ => s) (fun _ => 0) (fun _ => 0) := by
    refine ⟨fun q hq => ?_, fun q hq => ?_, ?_, fun q h1 h2 => by omega, fun b hb hne => ?_⟩
    · rw [hνs, show q = 0 by omega]; exact t5
    · rw [hνs, t3, if_pos rfl]; rfl
    · rw [hνs]; exact t4
    · have hne2 : nuC w b ≠ s := fun z => hne 0 (by omega) (nuC_inj hn (hνs.trans z.symm))
      rw [t3, if_neg hne2]
      exact if_pos (nuC_lt hn hm hb)
  have k2 := lpv_mea (f := f_X9_ringFrom_40 stn) (fun z => ∃ i e V qn qd qb, z.2.2 = nI i ∧ z.1.1 6 = nI e ∧ z.2.1 = nI V ∧ ST w s L i 0 e qn qd qb V ∧ AR (nuC w) (z.1.2.2.1 3) (z.1.2.2.1 4) (z.1.2.2.1 5) w s e qn qd qb) (fun z => 200 - z.2.2.toNatClampNeg) (fun r => ∃ V, r.2 = nI V ∧ RV w s L V) (fun z hI => ?_) (t, nI L, 0) ⟨0, 1, L, _, _, _, rfl, t6, rfl, S0, H0⟩
  · obtain ⟨⟨y, v⟩, f1, V, f3, f4⟩ := k2
    dsimp only at f3
    subst f3
    refine ⟨V, y, ?_, f4⟩
    unfold f_X9_ringFrom
    dsimp only [bnd]
    rw [if_pos (show inb (0 : Int32) 128 = true from inb_t (j := 0) (by omega) (by omega)), if_pos (inb_t (by omega) (by omega)), nI_clamp (by omega), show (0 : Int32).toNatClampNeg = 0 from rfl]
    rw [show oI (oA (oA (oA (oA st 3 (fillF 128 (-1) (st.2.2.1 3))) 5 (upd ((oA st 3 (fillF 128 (-1) (st.2.2.1 3))).2.2.1 5) 0 (nI s))) 4 (upd ((oA (oA st 3 (fillF 128 (-1) (st.2.2.1 3))) 5 (upd ((oA st 3 (fillF 128 (-1) (st.2.2.1 3))).2.2.1 5) 0 (nI s))).2.2.1 4) s (-1))) 3 (upd ((oA (oA (oA st 3 (fillF 128 (-1) (st.2.2.1 3))) 5 (upd ((oA st 3 (fillF 128 (-1) (st.2.2.1 3))).2.2.1 5) 0 (nI s))) 4 (upd ((oA (oA st 3 (fillF 128 (-1) (st.2.2.1 3))) 5 (upd ((oA st 3 (fillF 128 (-1) (st.2.2.1 3))).2.2.1 5) 0 (nI s))).2.2.1 4) s (-1))).2.2.1 3) s 0)) 6 1 = t by
      rw [← hT, oA_ne (j := 5) _ (by decide), oA_ne (j := 4) _ (by decide), oA_ne (j := 4) _ (by decide), oA_ne (j := 3) _ (by decide), oA_ne (j := 3) _ (by decide), oA_self]]
    rw [f1, ob_s]
  · obtain ⟨y, v, c⟩ := z
    obtain ⟨i, e, V, qn, qd, qb, g1, g2, g3, S, H⟩ := hI
    dsimp only at g1 g2 g3 H
    subst g1 g3
    have hie := S.1.hie
    have hle := S.1.en
    have hV := S.2.2.2
    rcases Nat.lt_or_ge i e with q | q
    · have hR : y.2.2.1 5 i = nI (nuC w (qn i)) := H.1 i q
      have hA : y.2.2.1 3 (nuC w (qn i)) = nI (qd i) := H.2.1 i q
      have hqn := S.1.hn i q
      have l2 := nuC_lt hn hm hqn
      have q1 := S.1.qdle i q
      have hc : (2 : Int32) * nI (qd i) + 2 = nI (2 * qd i + 2) := by rw [show (2 : Int32) = nI 2 from rfl, pk_mul, nI_add]
      have hif2 : ∀ {α : Type} (a b : α), (if (128 : Int32) ≤ nI i then a else b) = b := fun a b => if_neg (show ¬ (128 : Int32) ≤ nI i from nI_ge (b := 128) (by omega) (by decide))
      by_cases hv : V ≤ 2 * qd i + 2
      · right
        refine ⟨(y, nI V), ?_, V, rfl, S.2.2.1, hV, S.fin (Or.inr hv)⟩
        unfold f_X9_ringFrom_40
        dsimp only
        rw [g2, if_neg (nI_ge q (by omega)), hif2, if_pos (inb_t (by omega) (by omega)), nI_clamp (by omega), hR, if_pos (inb_t (by omega) (by omega)), nI_clamp (by omega), hA, hc, if_pos (nI_le hv (by omega))]
      · left
        by_cases hpt : qn i < w.1
        · have hνq : nuC w (qn i) = qn i := if_pos hpt
          have hx : RST w (qn i) 0 (thrF w.2 (qn i)) := fun j hj => by
            rw [decide_eq_true (Nat.zero_le _), Bool.and_true]
            unfold onB offC
            rw [if_neg (by omega), if_pos hpt, if_neg (by omega), show w.1 + j - w.1 = j by omega]
            refine Bool.eq_iff_iff.mpr ((tb_thr hm).trans ⟨fun z => z.2, fun z => ⟨?_, z⟩⟩)
            rcases Nat.lt_or_ge j w.2.length with r | r
            · exact r
            · rw [wl_out r, tb_0] at z; cases z
          obtain ⟨y', V', e', qn', qd', qb', f1, f2, f3, f4⟩ := rg_in hn hm stn (nI i) hL S H g2 q hx 1 (by rw [if_pos hpt])
          refine ⟨(y', nI V', nI (i + 1)), ?_, ⟨i + 1, e', V', qn', qd', qb', rfl, f2, rfl, f3, f4⟩, ?_⟩
          · unfold f_X9_ringFrom_40
            dsimp only
            rw [g2, if_neg (nI_ge q (by omega)), hif2, if_pos (inb_t (by omega) (by omega)), nI_clamp (by omega), hR, if_pos (inb_t (by omega) (by omega)), nI_clamp (by omega), hA, hc, if_neg (nI_ge (by omega) (by omega))]
            dsimp only [bnd]
            rw [if_neg (show ¬ (64 : Int32) ≤ nI (nuC w (qn i)) from nI_ge (b := 64) (by omega) (by decide)), if_neg ne10]
            rw [show f_X10_throughAt stn (nI (nuC w (qn i))) = some (thrF w.2 (qn i)) by rw [hνq]; exact throughAt_10 hw hpt, ob_s, f1, ob_s]
            dsimp only
            rw [nI_1]
          · dsimp only
            rw [nI_clamp (by omega), nI_clamp (by omega)]
            omega
        · have hνq : nuC w (qn i) = 64 + (qn i - w.1) := if_neg hpt
          have hlen : qn i - w.1 < w.2.length := by unfold nod at hqn; omega
          have hx : RST w (qn i) 0 (wl w.2 (qn i - w.1)) := fun j hj => by
            rw [decide_eq_true (Nat.zero_le _), Bool.and_true]
            unfold onB offC
            rw [if_pos (by omega), if_neg hpt, Nat.zero_add]
            by_cases r : w.1 ≤ j
            · rw [if_pos r]
              cases hb : tb (wl w.2 (qn i - w.1)) j with
              | false => rfl
              | true => have := hW.pt hn hlen hb; omega
            · rw [if_neg r]
          obtain ⟨y', V', e', qn', qd', qb', f1, f2, f3, f4⟩ := rg_in hn hm stn (nI i) hL S H g2 q hx 0 (by rw [if_neg hpt])
          refine ⟨(y', nI V', nI (i + 1)), ?_, ⟨i + 1, e', V', qn', qd', qb', rfl, f2, rfl, f3, f4⟩, ?_⟩
          · unfold f_X9_ringFrom_40
            dsimp only
            rw [g2, if_neg (nI_ge q (by omega)), hif2, if_pos (inb_t (by omega) (by omega)), nI_clamp (by omega), hR, if_pos (inb_t (by omega) (by omega)), nI_clamp (by omega), hA, hc, if_neg (nI_ge (by omega) (by omega))]
            dsimp only [bnd]
            rw [if_pos (show (64 : Int32) ≤ nI (nuC w (qn i)) from nI_le (a := 64) (by omega) (by omega)), if_pos rfl]
            rw [show f_X10_setAt stn (nI (nuC w (qn i)) - 64) = some (wl w.2 (qn i - w.1)) by
              rw [hνq, show (64 : Int32) = nI 64 from rfl, pk_sub (by omega), show 64 + (qn i - w.1) - 64 = qn i - w.1 by omega]
              exact setAt_10 hw.1 hlen, ob_s, f1, ob_s]
            dsimp only
            rw [nI_1]
          · dsimp only
            rw [nI_clamp (by omega), nI_clamp (by omega)]
            omega
    · right
      have : i = e := by omega
      subst this
      refine ⟨(y, nI V), ?_, V, rfl, S.2.2.1, hV, S.fin (Or.inl rfl)⟩
      unfold f_X9_ringFrom_40
      dsimp only
      rw [g2, if_pos (nI_le (Nat.le_refl _) (by omega))]
theorem ring_9 (hw : CW stn w) (hW : WFw w) : ∃ V y, f_X9_shortestRing st stn = some (encV V, y) ∧ RVs w w.1 1000 V := by
  have hn := hw.1.2.2.1
  have key := lpv_inv (f := f_X9_shortestRing_6 stn) (fun k z => z.2.2 = nI k ∧ ∃ V, z.2.1 = nI V ∧ RVs w k 1000 V) w.1 (fun r => ∃ V, r.2 = nI V ∧ RVs w w.1 1000 V) (fun k z hk hI => Or.inl ?_) (fun z hI => ?_) 0 (st, 1000, 0) (Nat.zero_le _) ⟨rfl, 1000, rfl, Or.inl rfl, Nat.le_refl _, fun k D hk => by omega⟩
  · obtain ⟨⟨x, v⟩, e1, V, e3, e4⟩ := key
    dsimp only at e3
    subst e3
    have hV := e4.2.1
    refine ⟨V, x, ?_, e4⟩
    unfold f_X9_shortestRing
    rw [e1, ob_s]
    dsimp only
    by_cases q : V = 1000
    · rw [if_pos (show nI V = 1000 by rw [q]; rfl), (encV_m1 hV).mpr q]
    · rw [if_neg (show ¬ nI V = (1000 : Int32) from nI_neq (b := 1000) (by omega) (by omega) q), encV_lt (by omega)]
  · obtain ⟨x, v, c⟩ := z
    obtain ⟨e1, V, e3, e4⟩ := hI
    dsimp only at e1 e3
    subst e1 e3
    obtain ⟨U, y, f1, f2⟩ := ringFrom_9 (st := x) hw hW hk e4.2.1
    refine ⟨(y, nI U, nI (k + 1)), ?_, rfl, U, rfl, e4.ex f2⟩
    unfold f_X9_shortestRing_6
    dsimp only
    rw [hw.1.1, if_neg (nI_ge hk (by omega)), if_neg (show ¬ (64 : Int32) ≤ nI k from nI_ge (b := 64) (by omega) (by decide)), f1, ob_s]
    dsimp only [bnd]
    rw [nI_1]
  · obtain ⟨x, v, c⟩ := z
    obtain ⟨e1, V, e3, e4⟩ := hI
    dsimp only at e1 e3
    subst e1 e3
    refine ⟨(x, nI V), ?_, V, rfl, e4⟩
    unfold f_X9_shortestRing_6
    dsimp only
    rw [hw.1.1, if_pos (nI_le (Nat.le_refl _) (by omega))]
theorem rvs_eq {V U : Nat} (h : RVs w w.1 1000 V) (k : RVs w (nod w) 1000 U) : V = U := by
  obtain ⟨h1, h2, h3⟩ := h
  obtain ⟨k1, k2, k3⟩ := k
  have a : V ≤ U := by
    rcases k1 with q | ⟨j, D, q0, q1, q2⟩
    · omega
    · rcases Nat.lt_or_ge j w.1 with r | r
      · have := h3 j D r q2
        omega
      · obtain ⟨p, D', p1, p2, p3⟩ := pp_pt r q2
        have := h3 p D' p1 p3
        omega
  have b : U ≤ V := by
    rcases h1 with q | ⟨j, D, q0, q1, q2⟩
    · omega
    · have := k3 j D (by unfold nod; omega) q2
      omega
  omega
theorem q_ring (hW : WFw w) (h : RWo st w.1 w.2) : ∃ k, (∀ stt stn scr, CW stn w → ∃ x, f_X11_ring stt stn scr = some (k, x)) ∧ ∃ x, f_X12_ring st = some (k, x) ∧ Kt st x := by
  obtain ⟨U, x, e1, e2, e3⟩ := ring_12 h
  refine ⟨encV U, fun stt stn scr hw => ?_, x, e1, e2⟩
  obtain ⟨V, y, f1, f2⟩ := ring_9 (st := scr) hw hW
  refine ⟨y, ?_⟩
  unfold f_X11_ring
  rw [f1, ob_s, rvs_eq f2 e3]
end RING9
