/-! questions: own numbers, joined, regular, meets, even -/
theorem tb_thr {l : List Int64} (hl : l.length ≤ 64) {p i : Nat} : tb (thrF l p) i = true ↔ i < l.length ∧ tb (wl l i) p = true := by
  unfold thrF
  rw [tb_orT]
  constructor
  · intro ⟨j, hj, h⟩
    by_cases hb : tb (wl l j) p = true
    · rw [if_pos hb, tb_bit1 (by omega)] at h
      have : i = j := of_decide_eq_true h
      subst this
      exact ⟨hj, hb⟩
    · rw [if_neg hb, tb_0] at h
      cases h
  · intro ⟨h1, h2⟩
    refine ⟨i, h1, ?_⟩
    rw [if_pos h2, tb_bit1 (by omega)]
    exact decide_eq_true rfl
theorem tb_near {l : List Int64} {p i : Nat} (hp : p < 64) : tb (nearF l p) i = true ↔ i ≠ p ∧ ∃ j, j < l.length ∧ tb (wl l j) p = true ∧ tb (wl l j) i = true := by
  unfold nearF
  rw [tb_dif, Bool.and_eq_true, tb_orT, tb_bit1 hp]
  simp only [Bool.not_eq_true', decide_eq_false_iff_not]
  constructor
  · intro ⟨⟨j, hj, h⟩, h2⟩
    by_cases hb : tb (wl l j) p = true
    · rw [if_pos hb] at h
      exact ⟨h2, j, hj, hb, h⟩
    · rw [if_neg hb, tb_0] at h
      cases h
  · intro ⟨h2, j, hj, hb, h⟩
    exact ⟨⟨j, hj, by rw [if_pos hb]; exact h⟩, h2⟩
theorem pcn_pos {x : Int64} {i : Nat} (h : tb x i = true) : 1 ≤ pcn x := by
  rcases Nat.eq_zero_or_pos (pcn x) with z | z
  · rw [pcn_0.mp z, tb_0] at h
    cases h
  · exact z
section Q2
variable {st : OS} {w : Wd}
theorem lawW_C (h : lawW w = 0) : lawC w = true := by
  unfold lawW at h
  by_cases hA : lawA w = true
  · rw [if_pos hA] at h
    by_cases hB : lawB w = true
    · rw [if_pos hB] at h
      by_cases hC : lawC w = true
      · exact hC
      · rw [if_neg hC] at h
        exact absurd h (by decide)
    · rw [if_neg hB] at h
      exact absurd h (by decide)
  · rw [if_neg hA] at h
    exact absurd h (by decide)
theorem ord_pos (hW : WFw w) (hn : w.1 ≤ 64) (hl : w.2.length ≤ 64) : ordW w false = -1 ∨ ∃ a b, a ≤ 64 ∧ b ≤ 64 ∧ ordW w false = nI a ∧ ordW w true = nI b := by
  unfold ordW
  by_cases h1 : w.2.length = 0
  · rw [if_pos h1]; exact Or.inl rfl
  · rw [if_neg h1, if_neg h1]
    by_cases h2 : lawW w = 0
    · rw [if_pos h2, if_pos h2, if_neg (by decide), if_pos rfl]
      right
      have h3 := (hW 0 (by omega)).2
      have h4 : lawC w = true := lawW_C h2
      have h5 : wl w.2 0 ≠ 0 := fun z => by rw [z, pcn_zero] at h3; omega
      obtain ⟨p, -, hp⟩ := ne0 h5
      have hpn := hW.pt hn (by omega) hp
      have h6 : 1 ≤ pcn (thrF w.2 p) := pcn_pos ((tb_thr hl (i := 0)).mpr ⟨by omega, hp⟩)
      have h7 : pcn (thrF w.2 p) = pcn (thrF w.2 0) := by
        rcases Nat.eq_zero_or_pos p with z | z
        · rw [z]
        · exact of_decide_eq_true (allF_iff.mp h4 p (by omega) (by omega))
      have h8 := pcn_le (wl w.2 0)
      have h9 := pcn_le (thrF w.2 0)
      obtain ⟨a, ha⟩ : ∃ a, pcn (wl w.2 0) = a + 1 := ⟨pcn (wl w.2 0) - 1, by omega⟩
      obtain ⟨b, hb⟩ : ∃ b, pcn (thrF w.2 0) = b + 1 := ⟨pcn (thrF w.2 0) - 1, by omega⟩
      exact ⟨a, b, by omega, by omega, by rw [ha, nI_pred], by rw [hb, nI_pred]⟩
    · rw [if_neg h2]; exact Or.inl rfl
theorem q_own (h : RWo st w.1 w.2) (hW : WFw w) (a0 a1 : Int32) : ∃ k, (∀ stt stn, CW stn w → f_X11_own stt stn a0 a1 = some k) ∧ ∃ v x, f_X12_own st a0 a1 = some (v, x) ∧ Kt st x ∧ QA 1 k v x := by
  have hw3 := within_12 a0 (n := 3) (by decide)
  rw [show (((nI 3) - 1 : Int32).toInt64) = 2 by decide +kernel] at hw3
  rcases out_or (i := a0) (n := 3) with h1 | ⟨j, rfl, hj⟩
  · refine ⟨.inl 1, fun stt stn hw => ?_, 0, oI st 2 1, ?_, Kt.thr 1, Or.inl ⟨rfl, th_v⟩⟩
    · unfold f_X11_own
      rcases h1 with h1 | h1
      · rw [if_pos h1]
      · by_cases h2 : a0 < 0
        · rw [if_pos h2]
        · rw [if_neg h2, if_neg]
          intro z
          have := Int32.le_trans h1 z
          exact absurd this (by decide)
    · unfold f_X12_own
      rw [hw3, if_pos h1, ob_s, if_pos rfl]
      dsimp only [bnd]
      rw [th_v, if_neg (by decide)]
  · have h1 := in_not (n := 3) (by decide) hj
    have h0 := h.th 0
    obtain ⟨y, ey, ky⟩ := ord_12 h0 false
    have hy := h0.kp ky
    obtain ⟨x, ex, kx⟩ := ord_12 hy true
    have hk : Kp (oI st 2 0) x := Keep.tr ky kx
    have hpre : ∀ stt stn, CW stn w → f_X11_own stt stn (nI j) a1 = (if a1 = 0 then (f_X2_ownNumber stn (nI j)).bind (fun x4 => some (.inr x4)) else (f_X2_ownTimes stn (nI j)).bind (fun x7 => some (.inr x7))) := fun stt stn hw => by
      unfold f_X11_own
      rw [if_neg (nI_pos (by omega)), if_pos (show nI j ≤ (2 : Int32) from nI_le (b := 2) (by omega) (by decide))]
    have hpr : f_X12_own st (nI j) a1 = (if ordW w false = -1 then some (-1, x) else if ordW w false + ordW w true = 0 then some (-1, x) else if a1 = 0 then (if nI j = 0 then some (ordW w false * (ordW w true + 1), x) else if nI j = 1 then some (ordW w false - 1, x) else some (-ordW w true - 1, x)) else (if nI j = 0 then some (1, x) else if nI j = 1 then (if ordW w false + ordW w true = 0 then none else some (((ordW w false * ordW w true) * (ordW w false + 1)) * (ordW w true + 1) / (ordW w false + ordW w true), x)) else (if ordW w false + ordW w true = 0 then none else some ((ordW w false * ordW w false) * ((ordW w false * ordW w true) + 1) / (ordW w false + ordW w true), x)))) := by
      unfold f_X12_own
      rw [hw3, if_neg h1, ob_s, if_neg ne10]
      dsimp only [bnd]
      have ey' : f_X12_orderOf (oI st 2 0) 0 = some (ordW w false, y) := ey
      have ex' : f_X12_orderOf y 1 = some (ordW w true, x) := ex
      rw [th_v, if_pos (by decide), ey', ob_s]
      dsimp only
      rw [ex', ob_s]
    rw [hpr]
    rcases ord_pos hW h.2.2.1 h.2.2.2.1 with e1 | ⟨a, b, ha, hb, e1, e2⟩
    · rw [if_pos e1]
      refine ⟨.inr (-1), fun stt stn hw => ?_, -1, x, rfl, Kt.p hk, Or.inr ⟨rfl, hk.v⟩⟩
      rw [hpre stt stn hw]
      unfold f_X2_ownNumber f_X2_ownTimes
      simp only [ord1_10 hw, ord2_10 hw hW, ob_s, e1, if_pos m1_lt, ite_self]
    · rw [e1, e2, if_neg (nI_m1 (by omega))]
      have hc : ∀ stt stn, CW stn w → f_X11_own stt stn (nI j) a1 = (if nI a + nI b = 0 then some (.inr (-1)) else if a1 = 0 then (if nI j = 0 then some (.inr (nI a * (nI b + 1))) else if nI j = 1 then some (.inr (nI a - 1)) else some (.inr (-nI b - 1))) else (if nI j = 0 then some (.inr 1) else if nI j = 1 then (if nI a + nI b = 0 then none else some (.inr (((nI a * nI b) * (nI a + 1)) * (nI b + 1) / (nI a + nI b)))) else (if nI a + nI b = 0 then none else some (.inr ((nI a * nI a) * ((nI a * nI b) + 1) / (nI a + nI b)))))) := fun stt stn hw => by
        rw [hpre stt stn hw]
        unfold f_X2_ownNumber f_X2_ownTimes
        simp only [ord1_10 hw, ord2_10 hw hW, ob_s, e1, e2, if_neg (nI_pos (n := a) (by omega)), if_neg (nI_pos (n := b) (by omega))]
        by_cases z1 : nI a + nI b = 0 <;> by_cases z2 : a1 = 0 <;> by_cases z3 : nI j = 0 <;> by_cases z4 : nI j = 1 <;> simp only [z1, z2, z3, z4, ne10, reduceIte, ob_s]
      have hgo : ∀ v, (∀ stt stn, CW stn w → f_X11_own stt stn (nI j) a1 = some (.inr v)) → ∃ k, (∀ stt stn, CW stn w → f_X11_own stt stn (nI j) a1 = some k) ∧ ∃ v' x', (some (v, x) : Option (Int32 × OS)) = some (v', x') ∧ Kt st x' ∧ QA 1 k v' x' := fun v hv => ⟨.inr v, hv, v, x, rfl, Kt.p hk, Or.inr ⟨rfl, hk.v⟩⟩
      by_cases z1 : nI a + nI b = 0
      · rw [if_pos z1]
        exact hgo _ (fun stt stn hw => by rw [hc stt stn hw, if_pos z1])
      · rw [if_neg z1]
        by_cases z2 : a1 = 0
        · rw [if_pos z2]
          by_cases z3 : nI j = 0
          · rw [if_pos z3]
            exact hgo _ (fun stt stn hw => by rw [hc stt stn hw, if_neg z1, if_pos z2, if_pos z3])
          · rw [if_neg z3]
            by_cases z4 : nI j = 1
            · rw [if_pos z4]
              exact hgo _ (fun stt stn hw => by rw [hc stt stn hw, if_neg z1, if_pos z2, if_neg z3, if_pos z4])
            · rw [if_neg z4]
              exact hgo _ (fun stt stn hw => by rw [hc stt stn hw, if_neg z1, if_pos z2, if_neg z3, if_neg z4])
        · rw [if_neg z2]
          by_cases z3 : nI j = 0
          · rw [if_pos z3]
            exact hgo _ (fun stt stn hw => by rw [hc stt stn hw, if_neg z1, if_neg z2, if_pos z3])
          · rw [if_neg z3]
            by_cases z4 : nI j = 1
            · rw [if_pos z4, if_neg z1]
              exact hgo _ (fun stt stn hw => by rw [hc stt stn hw, if_neg z1, if_neg z2, if_neg z3, if_pos z4, if_neg z1])
            · rw [if_neg z4, if_neg z1]
              exact hgo _ (fun stt stn hw => by rw [hc stt stn hw, if_neg z1, if_neg z2, if_neg z3, if_neg z4, if_neg z1])
/-- the least line with both -/
def joinW (w : Wd) (p q : Nat) : Int32 := if thrF w.2 p &&& thrF w.2 q = 0 then -1 else nI (low (thrF w.2 p &&& thrF w.2 q))
theorem join_12 (h : RWo st w.1 w.2) {p q : Nat} (hp : p < 64) (hq : q < 64) : ∃ r : Nat × Int32, lpv (f_X12_joined_29 st (nI p) (nI q)) 0 = some r ∧ (if r.1 = 0 then some (r.2, st) else some (-1, st)) = some (joinW w p q, st) := by
  have hl := h.2.2.2.1
  have key := lpv_inv (f := f_X12_joined_29 st (nI p) (nI q)) (fun i s => s = nI i ∧ ∀ j, j < i → ¬ (tb (wl w.2 j) p = true ∧ tb (wl w.2 j) q = true)) w.2.length (fun r => (r.1 = 1 ∧ ∀ j, j < w.2.length → ¬ (tb (wl w.2 j) p = true ∧ tb (wl w.2 j) q = true)) ∨ ∃ j, j < w.2.length ∧ r = (0, nI j) ∧ (tb (wl w.2 j) p = true ∧ tb (wl w.2 j) q = true) ∧ ∀ i, i < j → ¬ (tb (wl w.2 i) p = true ∧ tb (wl w.2 i) q = true)) (fun i s hi hI => ?_) (fun s hI => ?_) 0 0 (Nat.zero_le _) ⟨rfl, fun j hj => by omega⟩
  · obtain ⟨r, e, hr⟩ := key
    refine ⟨r, e, ?_⟩
    unfold joinW
    rcases hr with ⟨h1, h2⟩ | ⟨j, hj, rfl, h1, h2⟩
    · rw [h1, if_neg (by decide), if_pos]
      apply tb_ext
      intro i hi
      rw [tb_and, tb_0]
      cases ha : tb (thrF w.2 p) i with
      | false => rfl
      | true =>
        cases hb : tb (thrF w.2 q) i with
        | false => rfl
        | true => exact absurd ⟨((tb_thr hl).mp ha).2, ((tb_thr hl).mp hb).2⟩ (h2 i ((tb_thr hl).mp ha).1)
    · rw [if_pos rfl]
      have hb : tb (thrF w.2 p &&& thrF w.2 q) j = true := by
        rw [tb_and, (tb_thr hl).mpr ⟨hj, h1.1⟩, (tb_thr hl).mpr ⟨hj, h1.2⟩]
        rfl
      rw [if_neg (fun z => by rw [z, tb_0] at hb; cases hb), low_eq hb]
      intro i hi
      rw [tb_and]
      cases ha : tb (thrF w.2 p) i with
      | false => rfl
      | true =>
        cases hb : tb (thrF w.2 q) i with
        | false => rfl
        | true => exact absurd ⟨((tb_thr hl).mp ha).2, ((tb_thr hl).mp hb).2⟩ (h2 i hi)
  · obtain ⟨rfl, h2⟩ := hI
    unfold f_X12_joined_29
    rw [h.2.1, if_neg (nI_ge hi (by omega)), if_pos (inb_t (by omega) (by omega)), nI_clamp (by omega), h.2.2.2.2 i hi, has_12 hp, ob_s, has_12 hq, ob_s]
    by_cases ha : tb (wl w.2 i) p = true
    · rw [ha, if_neg b2t]
      by_cases hb : tb (wl w.2 i) q = true
      · rw [hb, if_neg b2t]
        exact Or.inr ⟨_, rfl, Or.inr ⟨i, hi, rfl, ⟨ha, hb⟩, h2⟩⟩
      · rw [eq_false_of_ne_true hb, if_pos b2f]
        refine Or.inl ⟨nI (i + 1), by simp only [bnd, nI_1], rfl, fun j hj z => ?_⟩
        rcases Nat.lt_or_ge j i with y | y
        · exact h2 j y z
        · rw [show j = i by omega] at z
          exact hb z.2
    · rw [eq_false_of_ne_true ha, if_pos b2f]
      refine Or.inl ⟨nI (i + 1), by simp only [bnd, nI_1], rfl, fun j hj z => ?_⟩
      rcases Nat.lt_or_ge j i with y | y
      · exact h2 j y z
      · rw [show j = i by omega] at z
        exact ha z.1
  · obtain ⟨rfl, h2⟩ := hI
    unfold f_X12_joined_29
    rw [h.2.1, if_pos (nI_le (Nat.le_refl _) (by omega))]
    exact ⟨_, rfl, Or.inl ⟨rfl, h2⟩⟩
theorem q_joined (h : RWo st w.1 w.2) (a0 a1 : Int32) : ∃ k, (∀ stt stn, CW stn w → f_X11_joined stt stn a0 a1 = some k) ∧ ∃ v x, f_X12_joined st a0 a1 = some (v, x) ∧ Kt st x ∧ QA 0 k v x := by
  have h0 := h.th 0
  have hn := h.2.2.1
  rcases out_or (i := a0) (n := w.1) with h1 | ⟨p, rfl, hp⟩
  · refine ⟨.inl 0, fun stt stn hw => ?_, 0, oI (oI st 2 0) 2 1, ?_, Kt.ff, Or.inl ⟨rfl, th_v⟩⟩
    · unfold f_X11_joined
      rw [needPoint_11 stt hw.1, if_pos h1]
      rfl
    · unfold f_X12_joined
      dsimp only [bnd]
      rw [isPoint_12 h0, if_pos h1, ob_s, if_pos rfl]
      rfl
  · have h1 := in_not h.2.2.1 hp
    rcases out_or (i := a1) (n := w.1) with h2 | ⟨q, rfl, hq⟩
    · refine ⟨.inl 0, fun stt stn hw => ?_, 0, oI (oI st 2 0) 2 1, ?_, Kt.ff, Or.inl ⟨rfl, th_v⟩⟩
      · unfold f_X11_joined
        rw [needPoint_11 stt hw.1, if_neg h1, ob_s]
        dsimp only
        rw [needPoint_11 stt hw.1, if_pos h2]
        rfl
      · unfold f_X12_joined
        dsimp only [bnd]
        rw [isPoint_12 h0, if_neg h1, ob_s, if_neg ne10, isPoint_12 h0, if_pos h2, ob_s, if_pos rfl]
        rfl
    · have h2 := in_not h.2.2.1 hq
      obtain ⟨r, e, hr⟩ := join_12 h0 (p := p) (q := q) (by omega) (by omega)
      refine ⟨.inr (joinW w p q), fun stt stn hw => ?_, joinW w p q, oI st 2 0, ?_, Kt.thr 0, Or.inr ⟨rfl, th_v⟩⟩
      · unfold f_X11_joined
        rw [needPoint_11 stt hw.1, if_neg h1, ob_s]
        dsimp only
        rw [needPoint_11 stt hw.1, if_neg h2, ob_s]
        dsimp only
        rw [throughAt_10 hw hp, ob_s, throughAt_10 hw hq, ob_s, lowest_10, ob_s]
        rfl
      · unfold f_X12_joined
        dsimp only [bnd]
        rw [isPoint_12 h0, if_neg h1, ob_s, if_neg ne10, isPoint_12 h0, if_neg h2, ob_s, if_neg ne10, e, ob_s]
        obtain ⟨r1, r2⟩ := r
        exact hr
def regW (w : Wd) (p q : Nat) : Int32 := if hyp w p q = 0 then 0 else if pcn (hyp w p q) = pcn (thrF w.2 p) then 1 else 0
theorem q_regular (h : RWo st w.1 w.2) (a0 a1 : Int32) : ∃ k, (∀ stt stn, CW stn w → f_X11_regular stt stn a0 a1 = some k) ∧ ∃ v x, f_X12_regular st a0 a1 = some (v, x) ∧ Kt st x ∧ QA 0 k v x := by
  have hn := h.2.2.1
  rcases out_or (i := a0) (n := w.1) with h1 | ⟨p, rfl, hp⟩
  · refine ⟨.inl 0, fun stt stn hw => ?_, 0, oI st 2 1, ?_, Kt.thr 1, Or.inl ⟨rfl, th_v⟩⟩
    · unfold f_X11_regular
      rw [needPoint_11 stt hw.1, if_pos h1]
      rfl
    · unfold f_X12_regular
      rw [isPoint_12 h, if_pos h1, ob_s, if_pos rfl]
      dsimp only [bnd]
      rw [th_v, if_neg (by decide)]
  · have h1 := in_not h.2.2.1 hp
    rcases out_or (i := a1) (n := w.1) with h2 | ⟨q, rfl, hq⟩
    · refine ⟨.inl 0, fun stt stn hw => ?_, 0, oI st 2 1, ?_, Kt.thr 1, Or.inl ⟨rfl, th_v⟩⟩
      · unfold f_X11_regular
        rw [needPoint_11 stt hw.1, if_neg h1, ob_s]
        dsimp only
        rw [needPoint_11 stt hw.1, if_pos h2]
        rfl
      · unfold f_X12_regular
        rw [isPoint_12 h, if_neg h1, ob_s, if_neg ne10, isPoint_12 h, if_pos h2, ob_s, if_pos rfl]
        dsimp only [bnd]
        rw [th_v, if_neg (by decide)]
    · have h2 := in_not h.2.2.1 hq
      obtain ⟨x, e, k⟩ := hyper_12 (h.th 0) hp hq
      refine ⟨.inr (regW w p q), fun stt stn hw => ?_, regW w p q, x, ?_, Kt.p k, Or.inr ⟨rfl, k.v⟩⟩
      · unfold f_X11_regular
        rw [needPoint_11 stt hw.1, if_neg h1, ob_s]
        dsimp only
        rw [needPoint_11 stt hw.1, if_neg h2, ob_s]
        dsimp only
        rw [hyper_10 hw hp hq, ob_s]
        unfold regW
        simp only [lg_cmp_eq]
        by_cases z : hyp w p q = 0
        · rw [if_pos z, if_pos z]
        · rw [if_neg z, if_neg z, bitCount_13, ob_s, throughAt_10 hw hp, ob_s, bitCount_13, ob_s]
          simp only [eqp]
          split <;> rfl
      · unfold f_X12_regular
        rw [isPoint_12 h, if_neg h1, ob_s, if_neg ne10, isPoint_12 h, if_neg h2, ob_s, if_neg ne10]
        dsimp only [bnd]
        rw [th_v, if_pos (by decide), e, ob_s]
        dsimp only
        unfold regW
        simp only [lg_cmp_eq]
        by_cases z : hyp w p q = 0
        · rw [if_pos z, if_pos z]
        · rw [if_neg z, if_neg z, ones_12, ob_s, throughOf_12 ((h.th 0).kp k) (by omega), ob_s, ones_12, ob_s]
          simp only [eqp]
          split <;> rfl
theorem q_meets (h : RWo st w.1 w.2) (a0 : Int64) (a1 : Int32) : ∃ k : Nat ⊕ Int32, (∀ stt stn, CW stn w → f_X11_meets stt stn a0 a1 = some k) ∧ ∃ v x, f_X12_meets st a0 a1 = some (v, x) ∧ Kt st x ∧ ((k = .inl 0 ∧ x.1 2 = 1) ∨ (k = .inl 1 ∧ x.1 2 = 2) ∨ (k = .inr v ∧ x.1 2 = 0)) := by
  have hl := h.2.2.2.1
  rcases out_or (i := a1) (n := w.2.length) with h1 | ⟨j, rfl, hj⟩
  · refine ⟨.inl 0, fun stt stn hw => ?_, 0, oI st 2 1, ?_, Kt.thr 1, Or.inl ⟨rfl, th_v⟩⟩
    · unfold f_X11_meets
      rw [needLine_11 stt hw.1, if_pos h1]
      rfl
    · unfold f_X12_meets
      rw [isLine_12 h, if_pos h1, ob_s, if_pos rfl]
      dsimp only [bnd]
      rw [th_v, if_neg (by decide)]
  · have h1 := in_not hl hj
    by_cases h2 : a0 &&& (fst64 w.1 ^^^ (-1)) = 0
    · refine ⟨.inr (nI (pcn (wl w.2 j &&& a0))), fun stt stn hw => ?_, nI (pcn (wl w.2 j &&& a0)), oI st 2 0, ?_, Kt.thr 0, Or.inr (Or.inr ⟨rfl, th_v⟩)⟩
      · unfold f_X11_meets
        rw [needLine_11 stt hw.1, if_neg h1, ob_s]
        dsimp only
        rw [needPoints_11 stt hw.1, if_pos h2, ob_s]
        dsimp only
        rw [setAt_10 hw.1 hj, ob_s, bitCount_13, ob_s]
      · unfold f_X12_meets
        rw [isLine_12 h, if_neg h1, ob_s, if_neg ne10, isSet_12 h, if_pos h2, ob_s, if_neg ne10]
        dsimp only [bnd]
        rw [th_v, if_pos (by decide), if_pos (inb_t (by omega) (by omega)), nI_clamp (by omega)]
        rw [show (oI st 2 0).2.2.2 3 j = wl w.2 j from h.2.2.2.2 j hj, and_c, ones_12, ob_s]
    · refine ⟨.inl 1, fun stt stn hw => ?_, 0, oI st 2 2, ?_, Kt.thr 2, Or.inr (Or.inl ⟨rfl, th_v⟩)⟩
      · unfold f_X11_meets
        rw [needLine_11 stt hw.1, if_neg h1, ob_s]
        dsimp only
        rw [needPoints_11 stt hw.1, if_neg h2]
        rfl
      · unfold f_X12_meets
        rw [isLine_12 h, if_neg h1, ob_s, if_neg ne10, isSet_12 h, if_neg h2, ob_s, if_pos rfl]
        dsimp only [bnd]
        rw [th_v, if_neg (by decide)]
/-- even -/
def evP (w : Wd) (s : Int64) : Bool := allF (fun i => decide (pcn (wl w.2 i &&& s) = pcn (wl w.2 0 &&& s))) 1 (w.2.length - 1)
def evW (w : Wd) (s : Int64) : Int32 := if w.2.length = 0 then -1 else if evP w s = true then nI (pcn (wl w.2 0 &&& s)) else -1
theorem even_10 {stn : OS} (hw : CW stn w) (s : Int64) : f_X6_evenBy stn s = some (evW w s) := by
  have hl := hw.1.2.2.2.1
  unfold f_X6_evenBy evW
  rw [hw.1.2.1]
  by_cases h1 : w.2.length = 0
  · rw [if_pos h1, if_pos (by rw [h1]; rfl)]
  · have e0 : f_X10_setAt stn 0 = some (wl w.2 0) := setAt_10 hw.1 (i := 0) (by omega)
    rw [if_neg h1, if_neg (nI_ne0 (by omega) (by omega)), e0, ob_s, bitCount_13, ob_s]
    have key : lpv (f_X6_evenBy_23 stn s (nI (pcn (wl w.2 0 &&& s)))) 1 = some (if evP w s = true then 1 else 0) := lpv_allF (N := w.2.length) (fun i hi => by
      unfold f_X6_evenBy_23
      rw [hw.1.2.1, if_neg (nI_ge hi (by omega)), setAt_10 hw.1 hi, ob_s, bitCount_13, ob_s]
      simp only [eqp, decide_eq_true_eq, bnd, nI_1]) (fun i h1 h2 => by
      unfold f_X6_evenBy_23
      rw [hw.1.2.1, if_pos (nI_le h1 (by omega))]) 1 (by omega)
    rw [key, ob_s]
    cases evP w s <;> rfl
theorem even_12 (h : RWo st w.1 w.2) (s : Int64) : f_X12_evenOf st s = some (evW w s) := by
  have hl := h.2.2.2.1
  unfold f_X12_evenOf evW
  have key : lpv (f_X12_evenOf_2 st s) 1 = some (if evP w s = true then 1 else 0) := lpv_allF (N := w.2.length) (fun i hi => by
    unfold f_X12_evenOf_2
    rw [h.2.1, if_neg (nI_ge hi (by omega)), if_pos (inb_t (by omega) (by omega)), nI_clamp (by omega), h.2.2.2.2 i hi, and_c, ones_12, ob_s, if_pos (show inb 0 64 = true from rfl), show ((0 : Int32).toNatClampNeg) = 0 from rfl, h.2.2.2.2 0 (by omega), and_c s, ones_12, ob_s]
    simp only [eqp, decide_eq_true_eq, bnd, nI_1]) (fun i h1 h2 => by
    unfold f_X12_evenOf_2
    rw [h.2.1, if_pos (nI_le h1 (by omega))]) 1 (by omega)
  rw [key, ob_s, h.2.1]
  by_cases h1 : w.2.length = 0
  · rw [if_pos h1]
    cases evP w s with
    | false => rfl
    | true => rw [if_pos rfl, if_neg (by decide), if_pos (by rw [h1]; rfl)]
  · rw [if_neg h1]
    cases evP w s with
    | false => rfl
    | true => rw [if_pos rfl, if_pos rfl, if_neg (by decide), if_neg (nI_ne0 (by omega) (by omega)), if_pos (show inb 0 64 = true from rfl), show ((0 : Int32).toNatClampNeg) = 0 from rfl, h.2.2.2.2 0 (by omega), and_c, ones_12, ob_s]
theorem q_even (h : RWo st w.1 w.2) (a0 : Int64) : ∃ k, (∀ stt stn, CW stn w → f_X11_even stt stn a0 = some k) ∧ ∃ v x, f_X12_even st a0 = some (v, x) ∧ Kt st x ∧ QA 1 k v x := by
  by_cases h1 : a0 &&& (fst64 w.1 ^^^ (-1)) = 0
  · refine ⟨.inr (evW w a0), fun stt stn hw => ?_, evW w a0, oI st 2 0, ?_, Kt.thr 0, Or.inr ⟨rfl, th_v⟩⟩
    · unfold f_X11_even
      rw [needPoints_11 stt hw.1, if_pos h1, ob_s]
      dsimp only
      rw [even_10 hw, ob_s]
    · unfold f_X12_even
      rw [isSet_12 h, if_pos h1, ob_s, if_neg ne10]
      dsimp only [bnd]
      rw [th_v, if_pos (by decide), even_12 (h.th 0), ob_s]
  · refine ⟨.inl 1, fun stt stn hw => ?_, 0, oI st 2 1, ?_, Kt.thr 1, Or.inl ⟨rfl, th_v⟩⟩
    · unfold f_X11_even
      rw [needPoints_11 stt hw.1, if_neg h1]
      rfl
    · unfold f_X12_even
      rw [isSet_12 h, if_neg h1, ob_s, if_pos rfl]
      dsimp only [bnd]
      rw [th_v, if_neg (by decide)]
end Q2
