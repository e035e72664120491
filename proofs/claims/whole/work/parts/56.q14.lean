/-! questions: widest, parts -/
theorem max_J9 (a b : Int32) : f_J9_max_7cf53 a b = some (if a < b then b else a) := by
  unfold f_J9_max_7cf53
  split <;> rfl
/-- how often the set of a point grows -/
def GT (w : Wd) (p T : Nat) : Prop := T < 64 ∧ seen w (bit1 p) (T + 1) = seen w (bit1 p) T ∧ ∀ k, k < T → seen w (bit1 p) (k + 1) ≠ seen w (bit1 p) k
def mxN (a b : Nat) : Nat := if a < b then b else a
theorem mx_nI {a b : Nat} (ha : a < 2 ^ 31) (hb : b < 2 ^ 31) : (if nI a < nI b then nI b else nI a) = nI (mxN a b) := by
  unfold mxN
  by_cases h : a < b
  · rw [if_pos h, if_pos (nI_lt h hb)]
  · rw [if_neg h, if_neg (nI_nlt (by omega) ha)]
section WID
variable {st stn : OS} {w : Wd}
theorem gb_in (hw : CW stn w) {p T V : Nat} (hp : p < w.1) (hT : GT w p T) (hV : V < 1000) : ∃ f, lpv (f_X9_greatestBetween_30 stn (nI p)) (nI V, bit1 p, 2) = some (f, nI (mxN V (2 * T))) := by
  obtain ⟨h1, h2, h3⟩ := hT
  have key := lpv_from (f := f_X9_greatestBetween_30 stn (nI p)) (fun t => (nI (mxN V (2 * t)), seen w (bit1 p) t, nI (2 * t + 2))) T (r := (0, nI (mxN V (2 * T)))) (a := 0) (fun t _ ht => ?_) ?_ (Nat.zero_le _)
  · rw [show mxN V (2 * 0) = V by unfold mxN; rw [if_neg (by omega)]] at key
    exact ⟨0, key⟩
  · unfold f_X9_greatestBetween_30
    dsimp only
    rw [if_neg (show ¬ (128 : Int32) < nI (2 * t + 2) from nI_nlt (b := 2 * t + 2) (a := 128) (by omega) (by decide)), nta_9 hw, ob_s]
    dsimp only [bnd]
    simp only [lg_cmp_eq]
    rw [if_neg (show ¬ seen w (bit1 p) t ||| ntaF w (seen w (bit1 p) t) = seen w (bit1 p) t from h3 t ht), max_J9, ob_s, mx_nI (by unfold mxN; split <;> omega) (by omega), show nI (2 * t + 2) + 2 = nI (2 * (t + 1) + 2) from nI_add _ _]
    have : mxN (mxN V (2 * t)) (2 * t + 2) = mxN V (2 * (t + 1)) := by unfold mxN; split <;> split <;> split <;> omega
    rw [this]
    rfl
  · unfold f_X9_greatestBetween_30
    dsimp only
    rw [if_neg (show ¬ (128 : Int32) < nI (2 * T + 2) from nI_nlt (b := 2 * T + 2) (a := 128) (by omega) (by decide)), nta_9 hw, ob_s]
    dsimp only [bnd]
    simp only [lg_cmp_eq]
    rw [if_pos (show seen w (bit1 p) T ||| ntaF w (seen w (bit1 p) T) = seen w (bit1 p) T from h2)]
/-- the distances from a point reach up to twice that -/
theorem gt_dist (hW : WFw w) (hn : w.1 ≤ 64) (hm : w.2.length ≤ 64) {p T : Nat} (hp : p < w.1) (hT : GT w p T) {a : Nat → Int32} (hd : DIST w p a) : (∀ o, o < w.1 → a o = -1 ∨ ∃ d, d ≤ 2 * T ∧ a o = nI d) ∧ ∃ o, o < w.1 ∧ a o = nI (2 * T) := by
  obtain ⟨h1, h2, h3⟩ := hT
  have hR := seen_rn hW hn hp
  have hN : ∀ o, o < w.1 → o < nod w := fun o ho => by unfold nod; omega
  refine ⟨fun o ho => ?_, ?_⟩
  · rcases hd o (hN o ho) with ⟨d, _, e, f1, f2⟩ | ⟨e, _⟩
    · right
      refine ⟨d, ?_, e⟩
      have g1 : Rn w p (2 * (T + d)) o := f1.up (by omega)
      have g2 := (hR (T + d) o ho).mpr g1
      rw [seen_fix h2] at g2
      have g3 := (hR T o ho).mp g2
      rcases Nat.lt_or_ge (2 * T) d with q | q
      · exact absurd g3 (f2 _ q)
      · exact q
    · exact Or.inl e
  · have hlast : ∃ o, o < w.1 ∧ tb (seen w (bit1 p) T) o = true ∧ ∀ k, k < T → tb (seen w (bit1 p) k) o = false := by
      rcases Nat.eq_zero_or_pos T with q | q
      · subst q
        refine ⟨p, hp, ?_, fun k hk => by omega⟩
        simp only [seen]
        rw [tb_bit1 (by omega)]
        exact decide_eq_true rfl
      · have hne := h3 (T - 1) (by omega)
        rw [show T - 1 + 1 = T by omega] at hne
        false_or_by_contra
        rename_i hno
        refine hne (tb_ext (fun i _ => ?_))
        cases hb : tb (seen w (bit1 p) (T - 1)) i with
        | true => exact seen_up (by omega) hb
        | false =>
          refine eq_false_of_ne_true (fun z => ?_)
          have hi := seen_lt hW hn hm (x := bit1 p) (fun i hi => by
            rw [tb_bit1 (by omega)] at hi
            have := of_decide_eq_true hi
            omega) T i z
          exact hno ⟨i, hi, z, fun k hk => eq_false_of_ne_true (fun z2 => by
            rw [seen_up (show k ≤ T - 1 by omega) z2] at hb
            cases hb)⟩
    obtain ⟨o, ho, g1, g2⟩ := hlast
    refine ⟨o, ho, ?_⟩
    have f1 := (hR T o ho).mp g1
    have f2 := rn_even hp ho f1 (fun k hk z => by
      have := g2 k hk
      rw [(hR k o ho).mpr z] at this
      cases this)
    exact DV.eq (hd o (hN o ho)) (Or.inl ⟨2 * T, by omega, rfl, f1, f2⟩)
theorem wd_in {x : OS} (hx : RWo x w.1 w.2) (b2 : Int32) {u : Int32} {V T : Nat} (hT : T < 64) (hV : V < 1000) (hu : u = nI V ∨ (u = -1 ∧ V = 0)) (ha : ∀ o, o < w.1 → x.2.2.1 27 o = -1 ∨ ∃ d, d ≤ 2 * T ∧ x.2.2.1 27 o = nI d) (he : ∃ o, o < w.1 ∧ x.2.2.1 27 o = nI (2 * T)) : lpv (f_X12_widest_25 x b2) (u, 0) = some (nI (mxN V (2 * T))) := by
  have hn := hx.2.2.1
  have mle : (-1 : Int32) < 0 := by decide
  have m1n : ∀ n, n < 2 ^ 31 → (-1 : Int32) < nI n := fun n h => Int32.lt_of_lt_of_le mle (nI_pos' h)
  have key := lpv_inv (f := f_X12_widest_25 x b2) (fun i z => z.2 = nI i ∧ ((z.1 = -1 ∧ u = -1 ∧ ∀ o, o < i → x.2.2.1 27 o = -1) ∨ ∃ d, z.1 = nI d ∧ (d = V ∨ d ≤ 2 * T) ∧ V ≤ d ∧ ∀ o e, o < i → e ≤ 2 * T → x.2.2.1 27 o = nI e → e ≤ d)) w.1 (fun r => r = nI (mxN V (2 * T))) (fun i z hi hI => Or.inl ?_) (fun z hI => ?_) 0 (u, 0) (Nat.zero_le _) ⟨rfl, ?_⟩
  · obtain ⟨r, e, h⟩ := key
    rw [e, h]
  · obtain ⟨v, b⟩ := z
    obtain ⟨e1, e2⟩ := hI
    dsimp only at e1 e2
    subst e1
    have hst : f_X12_widest_25 x b2 (v, nI i) = some (.inl (if v < x.2.2.1 27 i then x.2.2.1 27 i else v, nI (i + 1))) := by
      unfold f_X12_widest_25
      dsimp only
      rw [hx.1, if_neg (nI_ge hi (by omega)), if_pos (inb_t (by omega) (by omega)), nI_clamp (by omega), max_J9, ob_s]
      simp only [bnd, nI_1]
    refine ⟨_, hst, rfl, ?_⟩
    dsimp only
    rcases e2 with ⟨f1, f2, f3⟩ | ⟨d, f1, f2, f3, f4⟩
    · rcases ha i hi with g | ⟨e, g1, g2⟩
      · left
        rw [f1, g, if_neg (by decide)]
        exact ⟨rfl, f2, fun o ho => by
          rcases Nat.lt_or_ge o i with q | q
          · exact f3 o q
          · rw [show o = i by omega]; exact g⟩
      · right
        have hV0 : V = 0 := by
          rcases hu with z | z
          · rw [f2] at z
            exact absurd z.symm (nI_m1 (by omega))
          · exact z.2
        rw [f1, g2, if_pos (m1n e (by omega))]
        refine ⟨e, rfl, Or.inr g1, by omega, fun o c ho hc z => ?_⟩
        rcases Nat.lt_or_ge o i with q | q
        · rw [f3 o q] at z
          exact absurd z.symm (nI_m1 (by omega))
        · rw [show o = i by omega, g2] at z
          have := nI_neq (a := e) (b := c) (by omega) (by omega)
          false_or_by_contra
          exact this (by omega) z
    · right
      rcases ha i hi with g | ⟨e, g1, g2⟩
      · rw [f1, g, if_neg (fun z => Int32.lt_irrefl (Int32.lt_trans z (m1n d (by omega))))]
        refine ⟨d, rfl, f2, f3, fun o c ho hc z => ?_⟩
        rcases Nat.lt_or_ge o i with q | q
        · exact f4 o c q hc z
        · rw [show o = i by omega, g] at z
          exact absurd z.symm (nI_m1 (by omega))
      · rw [f1, g2, mx_nI (by omega) (by omega)]
        refine ⟨mxN d e, rfl, by unfold mxN; split <;> omega, by unfold mxN; split <;> omega, fun o c ho hc z => ?_⟩
        rcases Nat.lt_or_ge o i with q | q
        · have := f4 o c q hc z
          unfold mxN; split <;> omega
        · rw [show o = i by omega, g2] at z
          have h9 := nI_neq (a := e) (b := c) (by omega) (by omega)
          have : e = c := by
            false_or_by_contra
            rename_i hne
            exact h9 hne z
          unfold mxN; split <;> omega
  · obtain ⟨v, b⟩ := z
    obtain ⟨e1, e2⟩ := hI
    dsimp only at e1 e2
    subst e1
    obtain ⟨o, ho, g⟩ := he
    refine ⟨v, ?_, ?_⟩
    · unfold f_X12_widest_25
      dsimp only
      rw [hx.1, if_pos (nI_le (Nat.le_refl _) (by omega))]
    · rcases e2 with ⟨f1, f2, f3⟩ | ⟨d, f1, f2, f3, f4⟩
      · rw [f3 o ho] at g
        exact absurd g.symm (nI_m1 (by omega))
      · have h5 := f4 o (2 * T) ho (Nat.le_refl _) g
        rw [f1]
        have : d = mxN V (2 * T) := by
          unfold mxN
          rcases f2 with z | z
          · rw [z] at h5 ⊢
            rw [if_neg (by omega)]
          · have : d = 2 * T := by omega
            by_cases q : V < 2 * T
            · rw [if_pos q]; exact this
            · rw [if_neg q]; omega
        rw [this]
  · rcases hu with z | ⟨z, z2⟩
    · exact Or.inr ⟨V, z, Or.inl rfl, Nat.le_refl _, fun o e ho => by omega⟩
    · exact Or.inl ⟨z, z, fun o ho => by omega⟩
theorem gt_ex {p : Nat} (hp : p < 64) : ∃ T, GT w p T := seen_stop (bit1_ne hp)
theorem q_widest (hW : WFw w) (h : RWo st w.1 w.2) : ∃ k, (∀ stt stn, CW stn w → f_X11_widest stt stn = some k) ∧ ∃ x, f_X12_widest st = some (k, x) ∧ Kt st x := by
  have h0 := h.th 0
  have hn := h.2.2.1
  have hm := h.2.2.2.1
  have P : ∀ k, k ≤ w.1 → ∃ x V u, V < 1000 ∧ (u = nI V ∨ (u = -1 ∧ V = 0)) ∧ (0 < k → u = nI V) ∧ (k = 0 → u = -1) ∧ Kp (oI st 2 0) x ∧ lpv f_X12_widest_9 (oI st 2 0, -1, 0) = lpv f_X12_widest_9 (x, u, nI k) ∧ ∀ stn, CW stn w → lpv (f_X9_greatestBetween_15 stn) (0, 0) = lpv (f_X9_greatestBetween_15 stn) (nI V, nI k) := by
    intro k
    induction k with
    | zero => intro _; exact ⟨oI st 2 0, 0, -1, by omega, Or.inr ⟨rfl, rfl⟩, fun z => by omega, fun _ => rfl, Keep.rf, rfl, fun stn _ => rfl⟩
    | succ k ih =>
      intro hk
      obtain ⟨x, V, u, h1, h2, h3, _, h4, h5, h6⟩ := ih (by omega)
      obtain ⟨T, hT⟩ := gt_ex (w := w) (show k < 64 by omega)
      have hT64 := hT.1
      obtain ⟨v, y, e1, e2, e3⟩ := lays_12 (h0.kp h4) (s := k) (by unfold nod; omega)
      have hg := gt_dist hW hn hm (show k < w.1 by omega) hT e3
      have hi := wd_in ((h0.kp h4).kp e2) (nI k) hT.1 h1 h2 hg.1 hg.2
      refine ⟨y, mxN V (2 * T), nI (mxN V (2 * T)), by unfold mxN; split <;> omega, Or.inl rfl, fun _ => rfl, fun z => by omega, Keep.tr h4 e2, ?_, fun stn hw => ?_⟩
      · rw [h5]
        apply lpv_in
        unfold f_X12_widest_9
        dsimp only
        rw [(h0.kp h4).1, if_neg (nI_ge (show k < w.1 by omega) (by omega)), e1, ob_s]
        dsimp only
        rw [hi, ob_s]
        simp only [bnd, nI_1]
      · rw [h6 stn hw]
        apply lpv_in
        obtain ⟨f, hf⟩ := gb_in hw (show k < w.1 by omega) hT h1
        unfold f_X9_greatestBetween_15
        dsimp only
        rw [hw.1.1, if_neg (nI_ge (show k < w.1 by omega) (by omega)), sh1 (by omega)]
        dsimp only [bnd]
        rw [hf, ob_s]
        dsimp only
        rw [nI_1, ite_self]
  obtain ⟨x, V, u, h1, h2, h3, h3', h4, h5, h6⟩ := P w.1 (Nat.le_refl _)
  have hend : lpv f_X12_widest_9 (x, u, nI w.1) = some (x, u) := lpv_out (by
    unfold f_X12_widest_9
    dsimp only
    rw [(h0.kp h4).1, if_pos (nI_le (Nat.le_refl _) (by omega))])
  refine ⟨u, fun stt stn hw => ?_, x, ?_, Kt.p h4⟩
  · have hend2 : ∀ v, lpv (f_X9_greatestBetween_15 stn) (v, nI w.1) = some v := fun v => lpv_out (by
      unfold f_X9_greatestBetween_15
      dsimp only
      rw [hw.1.1, if_pos (nI_le (Nat.le_refl _) (by omega))])
    unfold f_X11_widest f_X9_greatestBetween
    rw [hw.1.1]
    rcases Nat.eq_zero_or_pos w.1 with q | q
    · rw [if_pos ((nI0 (by omega)).mpr q), h3' q]
      have := hend2 (-1)
      rw [q] at this
      rw [show (0 : Int32) = nI 0 from rfl, this, ob_s, ob_s]
    · rw [if_neg (nI_ne0 q (by omega)), h6 stn hw, hend2, ob_s, ob_s, h3 q]
  · unfold f_X12_widest
    dsimp only [bnd]
    rw [h5, hend, ob_s]
end WID
