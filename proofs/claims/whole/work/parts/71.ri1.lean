/-! questions: ring, the reference -/
def encV (V : Nat) : Int32 := if V = 1000 then -1 else nI V
theorem encV_lt {V : Nat} (h : V < 1000) : encV V = nI V := if_neg (by omega)
theorem encV_m1 {V : Nat} (h : V ≤ 1000) : encV V = -1 ↔ V = 1000 := by
  unfold encV
  by_cases q : V = 1000
  · rw [if_pos q]; simp [q]
  · rw [if_neg q]
    exact ⟨fun z => absurd z (nI_m1 (by omega)), fun z => absurd z q⟩
/-- the rows of the search -/
def AR (ν : Nat → Nat) (A B R : Nat → Int32) (w : Wd) (s e : Nat) (qn qd qb : Nat → Nat) : Prop := (∀ q, q < e → R q = nI (ν (qn q))) ∧ (∀ q, q < e → A (ν (qn q)) = nI (qd q)) ∧ B (ν s) = -1 ∧ (∀ q, 0 < q → q < e → B (ν (qn q)) = nI (ν (qn (qb q)))) ∧ ∀ b, b < nod w → (∀ q, q < e → qn q ≠ b) → A (ν b) = -1
theorem AR.add {ν : Nat → Nat} {A B R A' B' R' : Nat → Int32} {w : Wd} {s L i m e v : Nat} {qn qd qb : Nat → Nat} (S : ST w s L i m e qn qd qb v) (H : AR ν A B R w s e qn qd qb) (hν : ∀ a b, a < nod w → b < nod w → ν a = ν b → a = b) (hie : i < e) (hm : m < nod w) (hnew : ∀ q, q < e → qn q ≠ m) (eA : ∀ k, A' k = if k = ν m then nI (qd i + 1) else A k) (eB : ∀ k, B' k = if k = ν m then nI (ν (qn i)) else B k) (eR : ∀ k, R' k = if k = e then nI (ν m) else R k) : AR ν A' B' R' w s (e + 1) (upN qn e m) (upN qd e (qd i + 1)) (upN qb e i) := by
  obtain ⟨B0, -⟩ := S
  obtain ⟨H1, H2, H3, H4, H5⟩ := H
  have hlt : ∀ {f : Nat → Nat} {v q : Nat}, q < e → upN f e v q = f q := fun {f v q} h => if_neg (by omega)
  have heq : ∀ {f : Nat → Nat} {v : Nat}, upN f e v e = v := if_pos rfl
  have hne : ∀ q, q < e → ¬ ν (qn q) = ν m := fun q hq z => hnew q hq (hν _ _ (B0.hn q hq) hm z)
  refine ⟨fun q hq => ?_, fun q hq => ?_, ?_, fun q h1 h2 => ?_, fun b hb h => ?_⟩
  · rw [eR]
    by_cases c : q = e
    · rw [if_pos c, c, heq]
    · rw [if_neg c, hlt (by omega)]; exact H1 q (by omega)
  · rw [eA]
    by_cases c : q = e
    · rw [c, heq, heq, if_pos rfl]
    · rw [hlt (by omega), hlt (by omega), if_neg (hne q (by omega))]; exact H2 q (by omega)
  · rw [eB, if_neg (by have := hne 0 B0.h0; rw [B0.hs] at this; exact this)]
    exact H3
  · rw [eB]
    by_cases c : q = e
    · rw [c, heq, heq, if_pos rfl, hlt hie]
    · have := (B0.hb q h1 (by omega)).1
      rw [hlt (show q < e by omega), hlt (show q < e by omega), hlt (show qb q < e by omega), if_neg (hne q (by omega))]
      exact H4 q h1 (by omega)
  · have h1 := h e (by omega)
    rw [heq] at h1
    rw [eA, if_neg (fun z => h1 (hν _ _ hm hb z.symm))]
    exact H5 b hb (fun q hq => by have := h q (by omega); rw [hlt hq] at this; exact this)
/-- the shortest ring through a node, up to L -/
def RV (w : Wd) (s L v : Nat) : Prop := (v = L ∨ ∃ D, v = 2 * (D + 1) ∧ PP w s D) ∧ v ≤ L ∧ ∀ D, PP w s D → v ≤ 2 * (D + 1)
def RVs (w : Wd) (K L v : Nat) : Prop := (v = L ∨ ∃ k D, k < K ∧ v = 2 * (D + 1) ∧ PP w k D) ∧ v ≤ L ∧ ∀ k D, k < K → PP w k D → v ≤ 2 * (D + 1)
theorem RVs.ex {w : Wd} {K L v u : Nat} (h : RVs w K L v) (k : RV w K v u) : RVs w (K + 1) L u := by
  obtain ⟨h1, h2, h3⟩ := h
  obtain ⟨k1, k2, k3⟩ := k
  refine ⟨?_, by omega, fun j D hj hp => ?_⟩
  · rcases k1 with q | ⟨D, q1, q2⟩
    · subst q
      rcases h1 with q | ⟨j, D, q0, q1, q2⟩
      · exact Or.inl q
      · exact Or.inr ⟨j, D, by omega, q1, q2⟩
    · exact Or.inr ⟨K, D, by omega, q1, q2⟩
  · rcases Nat.lt_or_ge j K with q | q
    · have := h3 j D q hp
      omega
    · rw [show j = K by omega] at hp
      exact k3 D hp
theorem RVs.ex2 {w : Wd} {K L v u : Nat} (h : RVs w K L v) (k : RV w K L u) : RVs w (K + 1) L (if u < v then u else v) := by
  refine h.ex ?_
  obtain ⟨h1, h2, h3⟩ := h
  obtain ⟨k1, k2, k3⟩ := k
  by_cases c : u < v
  · rw [if_pos c]
    refine ⟨?_, by omega, k3⟩
    rcases k1 with q | q
    · omega
    · exact Or.inr q
  · rw [if_neg c]
    exact ⟨Or.inl rfl, Nat.le_refl _, fun D hp => by have := k3 D hp; omega⟩
section RING12
variable {st : OS} {w : Wd}
theorem lays_in2 (h : RWo st w.1 w.2) {s i e V : Nat} {qn qd qb : Nat → Nat} (S : ST w s 1000 i 0 e qn qd qb V) (H : AR (fun a => a) (st.2.2.1 27) (st.2.2.1 28) (st.2.2.1 29) w s e qn qd qb) (hie : i < e) : ∃ y V' e' qn' qd' qb', lpv (f_X12_lays_78 (nI (nod w)) (nI i) (nI (qn i))) (st, encV V, nI e, 0) = some (y, encV V', nI e') ∧ Kp st y ∧ ST w s 1000 (i + 1) 0 e' qn' qd' qb' V' ∧ AR (fun a => a) (y.2.2.1 27) (y.2.2.1 28) (y.2.2.1 29) w s e' qn' qd' qb' := by
  have hn := h.2.2.1
  have hm := h.2.2.2.1
  have hN : nod w ≤ 128 := by unfold nod; omega
  have key := lpv_inv (f := f_X12_lays_78 (nI (nod w)) (nI i) (nI (qn i))) (fun b z => z.2.2.2 = nI b ∧ Kp st z.1 ∧ ∃ V' e' qn' qd' qb', z.2.1 = encV V' ∧ z.2.2.1 = nI e' ∧ i < e' ∧ qn' i = qn i ∧ ST w s 1000 i b e' qn' qd' qb' V' ∧ AR (fun a => a) (z.1.2.2.1 27) (z.1.2.2.1 28) (z.1.2.2.1 29) w s e' qn' qd' qb') (nod w) (fun r => Kp st r.1 ∧ ∃ V' e' qn' qd' qb', r.2.1 = encV V' ∧ r.2.2 = nI e' ∧ ST w s 1000 (i + 1) 0 e' qn' qd' qb' V' ∧ AR (fun a => a) (r.1.2.2.1 27) (r.1.2.2.1 28) (r.1.2.2.1 29) w s e' qn' qd' qb') (fun b z hb hI => Or.inl ?_) (fun z hI => ?_) 0 (st, encV V, nI e, 0) (Nat.zero_le _) ⟨rfl, Keep.rf, V, e, qn, qd, qb, rfl, rfl, hie, rfl, S, H⟩
  · obtain ⟨⟨y, v', c⟩, e1, e2, V', e', qn', qd', qb', e3, e4, e5, e6⟩ := key
    dsimp only at e3 e4
    subst e3 e4
    exact ⟨y, V', e', qn', qd', qb', e1, e2, e5, e6⟩
  · obtain ⟨y, v, c, d⟩ := z
    obtain ⟨g1, g2, V', e', qn', qd', qb', g3, g4, g5, g6, g7, g8⟩ := hI
    dsimp only at g1 g2 g3 g4 g8
    subst g1 g3 g4
    have hy := h.kp g2
    have hqi : qn i < nod w := by rw [← g6]; exact g7.1.hn i g5
    have hA : ∀ q, q < e' → y.2.2.1 27 (qn' q) = nI (qd' q) := g8.2.1
    have hVle := g7.2.2.2
    unfold f_X12_lays_78
    dsimp only
    rw [if_neg (nI_ge hb (by omega)), isOn_12 hy hqi hb, ob_s]
    cases hon : onB w (qn i) b with
    | false =>
      rw [if_pos b2f]
      dsimp only [bnd]
      rw [nI_1]
      refine ⟨_, rfl, rfl, g2, V', e', qn', qd', qb', rfl, rfl, g5, g6, g7.skip (fun c h1 h2 => ?_) (by omega), g8⟩
      rw [show c = b by omega, g6]
      exact hon
    | true =>
      have hon' : onB w (qn' i) b = true := by rw [g6]; exact hon
      rw [if_neg b2t, if_pos (inb_t (by omega) (by omega)), nI_clamp (by omega), nI_clamp (by omega)]
      by_cases hp : 0 < i ∧ b = qn' (qb' i)
      · obtain ⟨p1, p2⟩ := hp
        have hb2 := g7.1.hb i p1 g5
        have h28 : y.2.2.1 28 (qn' i) = nI (qn' (qb' i)) := g8.2.2.2.1 i p1 g5
        rw [g6] at h28
        rw [if_pos (by rw [h28, ← p2])]
        dsimp only [bnd]
        rw [nI_1]
        exact ⟨_, rfl, rfl, g2, V', e', qn', qd', qb', rfl, rfl, g5, g6, g7.seen (k := qb' i) (v' := V') (by omega) p2 (Or.inl ⟨p1, rfl⟩) (Nat.le_refl _) g7.2.2.1, g8⟩
      · rw [if_neg (by
          intro z
          rcases Nat.eq_zero_or_pos i with q | q
          · have h28 : y.2.2.1 28 s = -1 := g8.2.2.1
            have hs0 := g7.1.hs
            rw [← q, g6] at hs0
            rw [hs0, h28] at z
            exact nI_m1 (by omega) z
          · have h28 : y.2.2.1 28 (qn' i) = nI (qn' (qb' i)) := g8.2.2.2.1 i q g5
            have hb2 := g7.1.hb i q g5
            have hlt := g7.1.hn (qb' i) (by omega)
            rw [g6] at h28
            rw [h28] at z
            exact hp ⟨q, (nI_eq (by omega) (by omega)).mp z⟩), if_pos (inb_t (by omega) (by omega))]
        by_cases hin : ∃ k, k < e' ∧ qn' k = b
        · obtain ⟨k, hk, rfl⟩ := hin
          obtain ⟨D, D1, D2⟩ := g7.ring g5 hk rfl hon' (fun z => hp ⟨z.1, by rw [z.2]⟩)
          have hAi := hA i g5
          rw [g6] at hAi
          have q1 := g7.1.qdle i g5
          have q2 := g7.1.qdle k hk
          have q3 := g7.1.en
          rw [hA k hk, if_neg (nI_m1 (by omega)), hAi]
          dsimp only [bnd]
          rw [nI_1, nI_add, nI_1]
          have fin : ∃ s' : OS × Int32 × Int32 × Int32, (some (.inl (y, encV (if V' ≤ qd' i + qd' k + 1 then V' else qd' i + qd' k + 1), nI e', nI (qn' k + 1))) : Option ((OS × Int32 × Int32 × Int32) ⊕ (OS × Int32 × Int32))) = some (.inl s') ∧ (s'.2.2.2 = nI (qn' k + 1) ∧ Kp st s'.1 ∧ ∃ V2 e2 qn2 qd2 qb2, s'.2.1 = encV V2 ∧ s'.2.2.1 = nI e2 ∧ i < e2 ∧ qn2 i = qn i ∧ ST w s 1000 i (qn' k + 1) e2 qn2 qd2 qb2 V2 ∧ AR (fun a => a) (s'.1.2.2.1 27) (s'.1.2.2.1 28) (s'.1.2.2.1 29) w s e2 qn2 qd2 qb2) := by
            refine ⟨_, rfl, rfl, g2, _, e', qn', qd', qb', rfl, rfl, g5, g6, g7.seen (k := k) hk rfl (Or.inr ?_) ?_ ?_, g8⟩
            · split <;> omega
            · split <;> omega
            · split
              · exact g7.2.2.1
              · exact Or.inr ⟨D, D1, D2⟩
          by_cases hv : V' = 1000
          · rw [if_pos ((encV_m1 hVle).mpr hv)]
            rw [if_neg (show ¬ V' ≤ qd' i + qd' k + 1 by omega), encV_lt (by omega)] at fin
            exact fin
          · rw [if_neg (fun z => hv ((encV_m1 hVle).mp z)), encV_lt (by omega)]
            by_cases hv2 : V' ≤ qd' i + qd' k + 1
            · rw [if_pos (nI_le hv2 (by omega))]
              rw [if_pos hv2, encV_lt (by omega)] at fin
              exact fin
            · rw [if_neg (nI_ge (by omega) (by omega))]
              rw [if_neg hv2, encV_lt (by omega)] at fin
              exact fin
        · have hnew : ∀ q, q < e' → qn' q ≠ b := fun q hq z => hin ⟨q, hq, z⟩
          have hz : y.2.2.1 27 b = -1 := g8.2.2.2.2 b hb hnew
          have S2 := g7.add g5 hon' hnew
          have hlt := S2.1.en
          have hAi := hA i g5
          rw [g6] at hAi
          rw [if_pos hz, hAi]
          dsimp only [bnd]
          rw [nI_1, nI_1, nI_1, if_pos (inb_t (by omega) (by omega)), nI_clamp (by omega)]
          refine ⟨_, rfl, rfl, Keep.oA (Keep.oA (Keep.oA g2 rfl) rfl) rfl, V', e' + 1, _, _, _, rfl, rfl, by omega, ?_, S2, AR.add g7 g8 (fun _ _ _ _ z => z) g5 hb hnew (fun k => ?_) (fun k => ?_) (fun k => ?_)⟩
          · unfold upN
            rw [if_neg (by omega)]
            exact g6
          · rw [oA_ne _ (by decide), oA_ne _ (by decide), oA_self]
            rfl
          · rw [oA_ne _ (by decide), oA_self, oA_ne _ (by decide), g6]
            rfl
          · rw [oA_self, oA_ne _ (by decide), oA_ne _ (by decide)]
            rfl
  · obtain ⟨y, v, c, d⟩ := z
    obtain ⟨g1, g2, V', e', qn', qd', qb', g3, g4, g5, g6, g7, g8⟩ := hI
    dsimp only at g1 g2 g3 g4 g8
    subst g1 g3 g4
    refine ⟨(y, encV V', nI e'), ?_, g2, V', e', qn', qd', qb', rfl, rfl, g7.next g5 (fun b hb => ?_), g8⟩
    · unfold f_X12_lays_78
      dsimp only
      rw [if_pos (nI_le (Nat.le_refl _) (by omega))]
    · cases hon : onB w (qn' i) b with
      | false => rfl
      | true => have := on_r hon; omega
theorem lays_v (h : RWo st w.1 w.2) {s : Nat} (hs : s < nod w) : ∃ V x, f_X12_lays st (nI s) = some (encV V, x) ∧ Kp st x ∧ RV w s 1000 V := by
  have hn := h.2.2.1
  have hm := h.2.2.2.1
  have hN : nod w ≤ 128 := by unfold nod; omega
  have hsum : (st.1 0) + (st.1 1) = nI (nod w) := by rw [h.1, h.2.1, nI_add]; rfl
  have k1 := lpv_inv (f := f_X12_lays_12 (nI s) (nI (nod w))) (fun i z => z.2 = nI i ∧ Kp st z.1 ∧ ∀ b, b < i → z.1.2.2.1 27 b = -1) (nod w) (fun x => Kp st x ∧ ∀ b, b < nod w → x.2.2.1 27 b = -1) (fun i z hi hI => Or.inl ?_) (fun z hI => ?_) 0 (st, 0) (Nat.zero_le _) ⟨rfl, Keep.rf, fun b hb => by omega⟩
  · obtain ⟨x, e1, e2, e3⟩ := k1
    generalize hT : oA (oA (oA x 27 (upd (x.2.2.1 27) s 0)) 28 (upd ((oA x 27 (upd (x.2.2.1 27) s 0)).2.2.1 28) s (-1))) 29 (upd ((oA (oA x 27 (upd (x.2.2.1 27) s 0)) 28 (upd ((oA x 27 (upd (x.2.2.1 27) s 0)).2.2.1 28) s (-1))).2.2.1 29) 0 (nI s)) = t
    have kt : Kp st t := by rw [← hT]; exact Keep.oA (Keep.oA (Keep.oA e2 rfl) rfl) rfl
    have t27 : ∀ k, t.2.2.1 27 k = if k = s then 0 else x.2.2.1 27 k := fun k => by
      rw [← hT, oA_ne _ (by decide), oA_ne _ (by decide), oA_self]; rfl
    have t28 : t.2.2.1 28 s = -1 := by
      rw [← hT, oA_ne _ (by decide), oA_self]; exact if_pos rfl
    have t29 : t.2.2.1 29 0 = nI s := by
      rw [← hT, oA_self]; exact if_pos rfl
    have S0 : ST w s 1000 0 0 1 (fun _ => s) (fun _ => 0) (fun _ => 0) 1000 := ST.init hs
    have H0 : AR (fun a => a) (t.2.2.1 27) (t.2.2.1 28) (t.2.2.1 29) w s 1 (fun _ => s) (fun _ => 0) (fun _ => 0) := by
      refine ⟨fun q hq => ?_, fun q hq => ?_, t28, fun q h1 h2 => by omega, fun b hb hne => ?_⟩
      · rw [show q = 0 by omega]; exact t29
      · rw [t27, if_pos rfl]; rfl
      · rw [t27, if_neg (fun z => hne 0 (by omega) z.symm)]
        exact e3 b hb
    have k2 := lpv_mea (f := f_X12_lays_59 (nI (nod w))) (fun z => Kp st z.1 ∧ ∃ i e V qn qd qb, z.2.2.2 = nI i ∧ z.2.2.1 = nI e ∧ z.2.1 = encV V ∧ ST w s 1000 i 0 e qn qd qb V ∧ AR (fun a => a) (z.1.2.2.1 27) (z.1.2.2.1 28) (z.1.2.2.1 29) w s e qn qd qb) (fun z => 200 - z.2.2.2.toNatClampNeg) (fun r => Kp st r.1 ∧ ∃ V, r.2 = encV V ∧ RV w s 1000 V) (fun z hI => ?_) (t, -1, 1, 0) ⟨kt, 0, 1, 1000, _, _, _, rfl, rfl, rfl, S0, H0⟩
    · obtain ⟨⟨y, v⟩, f1, f2, V, f3, f4⟩ := k2
      dsimp only at f3
      subst f3
      refine ⟨V, y, ?_, f2, f4⟩
      unfold f_X12_lays
      rw [hsum]
      dsimp only [bnd]
      rw [e1, ob_s, if_pos (inb_t (by omega) (by omega)), nI_clamp (by omega), if_pos (show inb (0 : Int32) 128 = true from inb_t (j := 0) (by omega) (by omega)), show (0 : Int32).toNatClampNeg = 0 from rfl, hT, f1, ob_s]
    · obtain ⟨y, v, c, d⟩ := z
      obtain ⟨g1, i, e, V, qn, qd, qb, g2, g3, g3', S, H⟩ := hI
      dsimp only at g1 g2 g3 g3' H
      subst g2 g3 g3'
      have hie := S.1.hie
      have hle := S.1.en
      rcases Nat.lt_or_ge i e with q | q
      · obtain ⟨y', V', e', qn', qd', qb', f1, f2, f3, f4⟩ := lays_in2 (h.kp g1) S H q
        have hR : y.2.2.1 29 i = nI (qn i) := H.1 i q
        left
        refine ⟨(y', encV V', nI e', nI (i + 1)), ?_, ⟨Keep.tr g1 f2, i + 1, e', V', qn', qd', qb', rfl, rfl, rfl, f3, f4⟩, ?_⟩
        · unfold f_X12_lays_59
          dsimp only
          rw [if_neg (nI_ge q (by omega)), if_pos (inb_t (by omega) (by omega)), nI_clamp (by omega), hR]
          dsimp only [bnd]
          rw [f1, ob_s]
          dsimp only
          rw [nI_1]
        · dsimp only
          rw [nI_clamp (by omega), nI_clamp (by omega)]
          omega
      · right
        have : i = e := by omega
        subst this
        refine ⟨(y, encV V), ?_, g1, V, rfl, S.2.2.1, S.2.2.2, S.fin (Or.inl rfl)⟩
        unfold f_X12_lays_59
        dsimp only
        rw [if_pos (nI_le (Nat.le_refl _) (by omega))]
  · obtain ⟨x, b⟩ := z
    obtain ⟨e1, e2, e3⟩ := hI
    dsimp only at e1 e2 e3
    subst e1
    refine ⟨(oA x 27 (upd (x.2.2.1 27) i (-1)), nI (i + 1)), ?_, rfl, Keep.oA e2 rfl, fun b hb => ?_⟩
    · unfold f_X12_lays_12
      dsimp only
      rw [if_neg (nI_ge hi (by omega)), if_pos (inb_t (by omega) (by omega)), nI_clamp (by omega)]
      simp only [bnd, nI_1]
    · dsimp only
      rw [oA_self]
      unfold upd
      by_cases q : b = i
      · rw [if_pos q]
      · rw [if_neg q]; exact e3 b (by omega)
  · obtain ⟨x, b⟩ := z
    obtain ⟨e1, e2, e3⟩ := hI
    dsimp only at e1 e2 e3
    subst e1
    refine ⟨x, ?_, e2, e3⟩
    unfold f_X12_lays_12
    dsimp only
    rw [if_pos (nI_le (Nat.le_refl _) (by omega))]
theorem ring_12 (h : RWo st w.1 w.2) : ∃ V x, f_X12_ring st = some (encV V, x) ∧ Kt st x ∧ RVs w (nod w) 1000 V := by
  have h0 := h.th 0
  have hn := h.2.2.1
  have hm := h.2.2.2.1
  have hN : nod w ≤ 128 := by unfold nod; omega
  have key := lpv_inv (f := f_X12_ring_9) (fun k z => z.2.2 = nI k ∧ Kp (oI st 2 0) z.1 ∧ ∃ V, z.2.1 = encV V ∧ RVs w k 1000 V) (nod w) (fun r => Kp (oI st 2 0) r.1 ∧ ∃ V, r.2 = encV V ∧ RVs w (nod w) 1000 V) (fun k z hk hI => Or.inl ?_) (fun z hI => ?_) 0 (oI st 2 0, -1, 0) (Nat.zero_le _) ⟨rfl, Keep.rf, 1000, rfl, Or.inl rfl, Nat.le_refl _, fun k D hk => by omega⟩
  · obtain ⟨⟨x, v⟩, e1, e2, V, e3, e4⟩ := key
    dsimp only at e2 e3
    subst e3
    refine ⟨V, x, ?_, Kt.p e2, e4⟩
    unfold f_X12_ring
    dsimp only [bnd]
    rw [e1, ob_s]
  · obtain ⟨x, v, c⟩ := z
    obtain ⟨e1, e2, V, e3, e4⟩ := hI
    dsimp only at e1 e2 e3
    subst e1 e3
    have hx := h0.kp e2
    obtain ⟨U, y, f1, f2, f3⟩ := lays_v hx hk
    have hsum : (x.1 0) + (x.1 1) = nI (nod w) := by rw [hx.1, hx.2.1, nI_add]; rfl
    have hV := e4.2.1
    have hU := f3.2.1
    refine ⟨(y, encV (if U < V then U else V), nI (k + 1)), ?_, rfl, Keep.tr e2 f2, _, rfl, e4.ex2 f3⟩
    unfold f_X12_ring_9
    dsimp only
    rw [hsum, if_neg (nI_ge hk (by omega)), f1, ob_s]
    dsimp only [bnd]
    rw [nI_1]
    by_cases q1 : U = 1000
    · rw [if_pos ((encV_m1 hU).mpr q1), if_neg (by omega)]
    · rw [if_neg (fun z => q1 ((encV_m1 hU).mp z))]
      by_cases q2 : V = 1000
      · rw [if_pos ((encV_m1 hV).mpr q2), if_pos (by omega)]
      · rw [if_neg (fun z => q2 ((encV_m1 hV).mp z)), min_J9, ob_s, encV_lt (by omega), encV_lt (by omega)]
        by_cases q3 : U < V
        · rw [if_pos q3, if_pos (nI_lt q3 (by omega)), encV_lt (by omega)]
        · rw [if_neg q3, if_neg (nI_nlt (by omega) (by omega)), encV_lt (by omega)]
  · obtain ⟨x, v, c⟩ := z
    obtain ⟨e1, e2, V, e3, e4⟩ := hI
    dsimp only at e1 e2 e3
    subst e1 e3
    have hx := h0.kp e2
    have hsum : (x.1 0) + (x.1 1) = nI (nod w) := by rw [hx.1, hx.2.1, nI_add]; rfl
    refine ⟨(x, encV V), ?_, e2, V, rfl, e4⟩
    unfold f_X12_ring_9
    dsimp only
    rw [hsum, if_pos (nI_le (Nat.le_refl _) (by omega))]
end RING12
