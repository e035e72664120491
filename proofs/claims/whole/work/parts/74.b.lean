/-! the text: tokens, both readers -/
def RB5 (st : OS) (T : Nat → Nat) (n : Nat) : Prop := st.1 3 = nI n ∧ n ≤ 700 ∧ ∀ i, i < n → T i < 256 ∧ st.2.2.1 1 i &&& 255 = nI (T i)
def KT5 (st x : OS) : Prop := x.2 = st.2 ∧ ∀ k, k ≠ 4 → k ≠ 5 → k ≠ 6 → k ≠ 7 → x.1 k = st.1 k
theorem KT5.rf {st : OS} : KT5 st st := ⟨rfl, fun _ _ _ _ _ => rfl⟩
theorem KT5.tr {st x y : OS} (h : KT5 st x) (g : KT5 x y) : KT5 st y := ⟨g.1.trans h.1, fun k a b c d => (g.2 k a b c d).trans (h.2 k a b c d)⟩
theorem KT5.o {st x : OS} (h : KT5 st x) {k : Nat} (hk : k = 4 ∨ k = 5 ∨ k = 6 ∨ k = 7) (v : Int32) : KT5 st (oI x k v) := ⟨by rw [oI_2]; exact h.1, fun j a b c d => by rw [oI_ne _ (by omega)]; exact h.2 j a b c d⟩
theorem RB5.k {st x : OS} {T : Nat → Nat} {n : Nat} (h : RB5 st T n) (k : KT5 st x) : RB5 x T n := ⟨(k.2 3 (by decide) (by decide) (by decide) (by decide)).trans h.1, h.2.1, fun i hi => by rw [k.1]; exact h.2.2 i hi⟩
/-- the class's token is the one from a place on -/
def TK5 (x : OS) (T : Nat → Nat) (n a : Nat) : Prop := x.1 6 = nI (bgT T n a) ∧ x.1 7 = nI (enT T n a) ∧ x.1 4 = nI (kdT T n a) ∧ (kdT T n a = 2 → x.1 5 = nI (nvT T n a))
section TK
variable {st : OS} {T : Nat → Nat} {n : Nat}
theorem byteAt_5 (mk : OS) (h : RB5 st T n) {i : Nat} (hi : i < n) : f_X5_byteAt st mk (nI i) = some (nI (T i)) := by
  have := h.2.1
  unfold f_X5_byteAt
  rw [if_neg (nI_pos (by omega)), if_neg (show ¬ (700 : Int32) ≤ nI i from nI_ge (b := 700) (by omega) (by decide)), if_pos (inb_t (by omega) (by omega)), nI_clamp (by omega), (h.2.2 i hi).2]
theorem isWord_5 (mk : OS) (h : RB5 st T n) {b e s : Nat} (hb : st.1 6 = nI b) (he : st.1 7 = nI e) (hbe : b ≤ e) (hen : e ≤ n) (hs : s < sTab.length) : f_X5_isWord st mk s = some (b2i (wdT T b e s)) := by
  have hn := h.2.1
  have hl := sLen_lt s hs
  unfold f_X5_isWord wdT
  rw [hb, he, pk_sub hbe]
  by_cases c : sLen s = e - b
  · rw [if_pos (congrArg nI c), decide_eq_true c, Bool.true_and]
    have key := lpv_allF (f := f_X5_isWord_20 st mk s) (P := fun i => decide (nI (T (b + i)) = sCh s i)) (N := sLen s) (fun i hi => ?_) (fun i h1 h2 => ?_) 0 (Nat.zero_le _)
    · rw [show (0 : Int32) = nI 0 from rfl, key, ob_s, Nat.sub_zero]
      cases allF (fun i => decide (nI (T (b + i)) = sCh s i)) 0 (sLen s) <;> rfl
    · unfold f_X5_isWord_20
      rw [if_neg (nI_ge hi (by omega)), if_pos (inb_t hi (by omega)), hb, nI_add, byteAt_5 mk h (by omega), ob_s, nI_clamp (by omega)]
      dsimp only [bnd]
      rw [nI_1]
      by_cases d : nI (T (b + i)) = sCh s i
      · rw [if_pos d.symm, if_pos (decide_eq_true d)]
      · rw [if_neg (fun z => d z.symm), if_neg (by rw [decide_eq_false d]; decide)]
    · unfold f_X5_isWord_20
      rw [if_pos (nI_le h1 (by omega))]
  · rw [if_neg (fun z => c ((nI_eq (by omega) (by omega)).mp z)), decide_eq_false c]
    rfl
theorem b2i_if {α : Type} {c : Bool} {x y : α} : (if b2i c = 0 then x else y) = if c = true then y else x := by
  cases c with
  | true => rw [if_neg b2t, if_pos rfl]
  | false => rw [if_pos b2f, if_neg (by decide)]
theorem step_5 (mk : OS) (h : RB5 st T n) {a : Nat} (h7 : st.1 7 = nI a) (ha : a ≤ n) : ∃ x, f_X5_step st mk = some x ∧ KT5 st x ∧ TK5 x T n a := by
  have hn := h.2.1
  have hbn := bgT_le (T := T) ha
  have hba := bgT_ge T n a
  have hen := enT_le (T := T) ha
  have heb := enT_ge T n a
  -- blanks
  have k0 := lpv_inv (f := f_X5_step_8 mk) (fun i z => a ≤ i ∧ KT5 st z ∧ z.1 6 = nI i) (bgT T n a) (fun x => KT5 st x ∧ x.1 6 = nI (bgT T n a)) (fun i z hi hI => ?_) (fun z hI => ?_) a (oI st 6 (nI a)) hba ⟨Nat.le_refl _, KT5.rf.o (by omega) _, oI_self _ _ _⟩
  · obtain ⟨x0, e0, k1, k2⟩ := k0
    have hst : f_X5_step st mk = if nI (bgT T n a) < nI n then (f_X5_byteAt (oI (oI x0 7 (nI (bgT T n a))) 7 (nI (bgT T n a + 1))) mk (nI (bgT T n a))).bind (fun x21 => (f_X5_isDigit x21).bind (fun x24 => if x24 = 0 then (f_X5_isLetter x21).bind (fun x28 => if x28 = 0 then (if x21 = 59 then some (oI (oI (oI x0 7 (nI (bgT T n a))) 7 (nI (bgT T n a + 1))) 4 1) else some (oI (oI (oI x0 7 (nI (bgT T n a))) 7 (nI (bgT T n a + 1))) 4 3)) else (f_X5_stepWord (oI (oI x0 7 (nI (bgT T n a))) 7 (nI (bgT T n a + 1))) mk).bind (fun x37 => some x37)) else (f_X5_stepNumber (oI (oI x0 7 (nI (bgT T n a))) 7 (nI (bgT T n a + 1))) mk).bind (fun x40 => some x40))) else some (oI (oI x0 7 (nI (bgT T n a))) 4 0) := by
      have h3 : x0.1 3 = nI n := (h.k k1).1
      unfold f_X5_step
      dsimp only [bnd]
      rw [h7, e0, ob_s, k2]
      rw [oI_ne (j := 6) _ (by decide), oI_ne (j := 3) _ (by decide), oI_self, k2, h3, nI_1, oI_ne (j := 6) _ (by decide), oI_ne (j := 6) _ (by decide), k2]
    obtain ⟨t, ht⟩ : ∃ t, t = oI (oI x0 7 (nI (bgT T n a))) 7 (nI (bgT T n a + 1)) := ⟨_, rfl⟩
    have kt : KT5 st t := by rw [ht]; exact (k1.o (by omega) _).o (by omega) _
    have t6 : t.1 6 = nI (bgT T n a) := by rw [ht, oI_ne _ (by decide), oI_ne _ (by decide)]; exact k2
    have t7 : t.1 7 = nI (bgT T n a + 1) := by rw [ht, oI_self]
    rw [hst]
    by_cases c0 : bgT T n a < n
    · rw [if_pos (nI_lt c0 (by omega)), ← ht]
      obtain ⟨c256, -⟩ := h.2.2 _ c0
      rw [byteAt_5 mk (h.k kt) c0, ob_s, dg_5 c256, ob_s, b2i_if]
      by_cases cd : isDg (T (bgT T n a)) = true
      · -- a number
        rw [if_pos cd]
        have hE : enT T n a = runP (fun i => isDg (T i)) (bgT T n a) n := by
          unfold enT
          rw [if_neg (by omega), if_pos cd]
        have hK : kdT T n a = if enT T n a - bgT T n a ≤ 3 then 2 else 3 := by
          unfold kdT
          rw [if_neg (by omega), if_pos cd]
        have hE1 : runP (fun i => isDg (T i)) (bgT T n a + 1) n = enT T n a := by rw [hE]; exact runP_s c0 cd
        have hE2 : bgT T n a + 1 ≤ enT T n a := by rw [← hE1]; exact runP_ge _ _ _
        have hd48 : ∀ i, isDg (T i) = true → 48 ≤ T i := fun i z => by
          unfold isDg at z
          rw [Bool.and_eq_true, decide_eq_true_iff, decide_eq_true_iff] at z
          exact z.1
        have kN := lpv_inv (f := f_X5_stepNumber_15 mk) (fun j z => bgT T n a ≤ j ∧ KT5 st z ∧ z.1 6 = nI (bgT T n a) ∧ z.1 7 = nI j ∧ z.1 5 = nI (vlT T (bgT T n a) (min 3 (j - bgT T n a)))) (enT T n a) (fun x => KT5 st x ∧ x.1 6 = nI (bgT T n a) ∧ x.1 7 = nI (enT T n a) ∧ x.1 5 = nI (vlT T (bgT T n a) (min 3 (enT T n a - bgT T n a)))) (fun j z hj hI => Or.inl ?_) (fun z hI => ?_) (bgT T n a + 1) (oI t 5 (nI (T (bgT T n a)) - 48)) hE2 ⟨by omega, kt.o (by omega) _, by rw [oI_ne _ (by decide)]; exact t6, by rw [oI_ne _ (by decide)]; exact t7, ?_⟩
        · obtain ⟨x1, e1, l1, l2, l3, l4⟩ := kN
          have hsn : f_X5_stepNumber t mk = if (3 : Int32) < nI (enT T n a - bgT T n a) then some (oI x1 4 3) else some (oI x1 4 2) := by
            unfold f_X5_stepNumber
            dsimp only [bnd]
            rw [t6, byteAt_5 mk (h.k kt) c0, ob_s, e1, ob_s, l2, l3, pk_sub heb]
          rw [hsn]
          by_cases c3 : enT T n a - bgT T n a ≤ 3
          · rw [if_pos c3] at hK
            rw [if_neg (show ¬ (3 : Int32) < nI (enT T n a - bgT T n a) from nI_nlt (a := 3) c3 (by decide)), ob_s]
            refine ⟨_, rfl, l1.o (by omega) _, by rw [oI_ne _ (by decide)]; exact l2, by rw [oI_ne _ (by decide)]; exact l3, by rw [oI_self, hK]; rfl, fun _ => ?_⟩
            rw [oI_ne _ (by decide), l4, Nat.min_eq_right c3]
            rfl
          · rw [if_neg c3] at hK
            rw [if_pos (show (3 : Int32) < nI (enT T n a - bgT T n a) from nI_lt (a := 3) (by omega) (by omega)), ob_s]
            exact ⟨_, rfl, l1.o (by omega) _, by rw [oI_ne _ (by decide)]; exact l2, by rw [oI_ne _ (by decide)]; exact l3, by rw [oI_self, hK]; rfl, fun z => by rw [hK] at z; omega⟩
        · obtain ⟨hjb, g1, g2, g3, g4⟩ := hI
          have hzj := h.k g1
          have hjn : j < n := by omega
          have hdj : isDg (T j) = true := runP_in (P := fun i => isDg (T i)) (a := bgT T n a) (n := n) hjb (by rw [← hE]; exact hj)
          obtain ⟨j256, -⟩ := h.2.2 j hjn
          have j48 := hd48 j hdj
          have hs1 : f_X5_stepNumber_15 mk z = if (3 : Int32) ≤ nI (j - bgT T n a) then some (.inl (oI (oI z 5 (z.1 5)) 7 (nI (j + 1)))) else some (.inl (oI (oI z 5 (z.1 5 * 10 + nI (T j) - 48)) 7 (nI (j + 1)))) := by
            unfold f_X5_stepNumber_15
            rw [hzj.1, g3, if_neg (nI_ge hjn (by omega)), byteAt_5 mk hzj hjn, ob_s, dg_5 j256, ob_s, b2i_if, if_pos hdj, g2, pk_sub hjb, ob_s]
            dsimp only [bnd]
            rw [oI_ne _ (show (7 : Nat) ≠ 5 by decide), oI_ne _ (show (7 : Nat) ≠ 5 by decide), g3, nI_1]
          rw [hs1]
          by_cases c3 : 3 ≤ j - bgT T n a
          · rw [if_pos (show (3 : Int32) ≤ nI (j - bgT T n a) from nI_le (a := 3) c3 (by omega))]
            refine ⟨_, rfl, by omega, (g1.o (by omega) _).o (by omega) _, by rw [oI_ne _ (by decide), oI_ne _ (by decide)]; exact g2, oI_self _ _ _, ?_⟩
            rw [oI_ne _ (by decide), oI_self, g4, Nat.min_eq_left c3, Nat.min_eq_left (by omega)]
          · rw [if_neg (show ¬ (3 : Int32) ≤ nI (j - bgT T n a) from nI_ge (b := 3) (by omega) (by decide))]
            refine ⟨_, rfl, by omega, (g1.o (by omega) _).o (by omega) _, by rw [oI_ne _ (by decide), oI_ne _ (by decide)]; exact g2, oI_self _ _ _, ?_⟩
            rw [oI_ne _ (by decide), oI_self, g4, Nat.min_eq_right (by omega), Nat.min_eq_right (by omega), show (10 : Int32) = nI 10 from rfl, pk_mul, nI_add, show (48 : Int32) = nI 48 from rfl, pk_sub (by omega), show j + 1 - bgT T n a = (j - bgT T n a) + 1 by omega]
            show _ = nI (10 * vlT T (bgT T n a) (j - bgT T n a) + (T (bgT T n a + (j - bgT T n a)) - 48))
            rw [show bgT T n a + (j - bgT T n a) = j by omega]
            congr 1
            omega
        · obtain ⟨hjb, g1, g2, g3, g4⟩ := hI
          have hzj := h.k g1
          refine ⟨z, ?_, g1, g2, g3, g4⟩
          unfold f_X5_stepNumber_15
          rw [hzj.1, g3]
          by_cases q : n ≤ enT T n a
          · rw [if_pos (nI_le q (by omega))]
          · have hdj : isDg (T (enT T n a)) = false := by
              have := runP_out (P := fun i => isDg (T i)) (a := bgT T n a) (n := n) (by rw [← hE]; omega)
              rw [← hE] at this
              exact this
            rw [if_neg (nI_ge (by omega) (by omega)), byteAt_5 mk hzj (by omega), ob_s, dg_5 (h.2.2 _ (by omega)).1, ob_s, b2i_if, if_neg (by rw [hdj]; decide)]
        · have j48 := hd48 _ cd
          rw [oI_self, show min 3 (bgT T n a + 1 - bgT T n a) = 1 by omega, show (48 : Int32) = nI 48 from rfl, pk_sub j48]
          show _ = nI (10 * 0 + (T (bgT T n a + 0) - 48))
          rw [Nat.mul_zero, Nat.zero_add, Nat.add_zero]
      · rw [if_neg cd, lt_5 c256, ob_s, b2i_if]
        by_cases cl : isLt (T (bgT T n a)) = true
        · -- a word
          rw [if_pos cl]
          have hE : enT T n a = runP (fun i => isLt (T i)) (bgT T n a) n := by
            unfold enT
            rw [if_neg (by omega), if_neg cd, if_pos cl]
          have hK : kdT T n a = wrT T (bgT T n a) (enT T n a) := by
            unfold kdT
            rw [if_neg (by omega), if_neg cd, if_pos cl]
          have hE1 : runP (fun i => isLt (T i)) (bgT T n a + 1) n = enT T n a := by rw [hE]; exact runP_s c0 cl
          have hE2 : bgT T n a + 1 ≤ enT T n a := by rw [← hE1]; exact runP_ge _ _ _
          have kN := lpv_inv (f := f_X5_stepWord_0 mk) (fun j z => bgT T n a ≤ j ∧ KT5 st z ∧ z.1 6 = nI (bgT T n a) ∧ z.1 7 = nI j) (enT T n a) (fun x => KT5 st x ∧ x.1 6 = nI (bgT T n a) ∧ x.1 7 = nI (enT T n a)) (fun j z hj hI => Or.inl ?_) (fun z hI => ?_) (bgT T n a + 1) t hE2 ⟨by omega, kt, t6, t7⟩
          · obtain ⟨x1, e1, l1, l2, l3⟩ := kN
            obtain ⟨y, hy⟩ : ∃ y, y = oI x1 4 4 := ⟨_, rfl⟩
            have ky : KT5 st y := by rw [hy]; exact l1.o (by omega) _
            have y6 : y.1 6 = nI (bgT T n a) := by rw [hy, oI_ne _ (by decide)]; exact l2
            have y7 : y.1 7 = nI (enT T n a) := by rw [hy, oI_ne _ (by decide)]; exact l3
            have hw : ∀ s, s < sTab.length → f_X5_isWord y mk s = some (b2i (wdT T (bgT T n a) (enT T n a) s)) := fun s hs => isWord_5 mk (h.k ky) y6 y7 heb hen hs
            have hsw : f_X5_stepWord t mk = some (oI y 4 (nI (kdT T n a))) := by
              unfold f_X5_stepWord
              rw [e1, ob_s]
              dsimp only [bnd]
              rw [← hy, hw 1 (by decide), ob_s, b2i_if, hw 2 (by decide), ob_s, b2i_if, hw 3 (by decide), ob_s, b2i_if, hw 4 (by decide), ob_s, b2i_if, hw 5 (by decide), ob_s, b2i_if, hw 6 (by decide), ob_s, b2i_if, hK]
              unfold wrT
              by_cases w1 : wdT T (bgT T n a) (enT T n a) 1 = true
              · rw [if_pos w1, if_pos w1]; rfl
              rw [if_neg w1, if_neg w1]
              by_cases w2 : wdT T (bgT T n a) (enT T n a) 2 = true
              · rw [if_pos w2, if_pos w2]; rfl
              rw [if_neg w2, if_neg w2]
              by_cases w3 : wdT T (bgT T n a) (enT T n a) 3 = true
              · rw [if_pos w3, if_pos w3]; rfl
              rw [if_neg w3, if_neg w3]
              by_cases w4 : wdT T (bgT T n a) (enT T n a) 4 = true
              · rw [if_pos w4, if_pos w4]; rfl
              rw [if_neg w4, if_neg w4]
              by_cases w5 : wdT T (bgT T n a) (enT T n a) 5 = true
              · rw [if_pos w5, if_pos w5]; rfl
              rw [if_neg w5, if_neg w5]
              by_cases w6 : wdT T (bgT T n a) (enT T n a) 6 = true
              · rw [if_pos w6, if_pos w6]; rfl
              rw [if_neg w6, if_neg w6, hy, show nI 4 = (4 : Int32) from rfl, oI_same]
            rw [hsw, ob_s]
            refine ⟨_, rfl, ky.o (by omega) _, by rw [oI_ne _ (by decide)]; exact y6, by rw [oI_ne _ (by decide)]; exact y7, oI_self _ _ _, fun z => ?_⟩
            have := wk_ge T (bgT T n a) (enT T n a)
            omega
          · obtain ⟨g0, g1, g2, g3⟩ := hI
            have hzj := h.k g1
            have hjn : j < n := by omega
            have hdj : isLt (T j) = true := runP_in (P := fun i => isLt (T i)) (a := bgT T n a) (n := n) g0 (by rw [← hE]; exact hj)
            refine ⟨oI z 7 (nI (j + 1)), ?_, by omega, g1.o (by omega) _, by rw [oI_ne _ (by decide)]; exact g2, oI_self _ _ _⟩
            unfold f_X5_stepWord_0
            rw [hzj.1, g3, if_neg (nI_ge hjn (by omega)), byteAt_5 mk hzj hjn, ob_s, lt_5 (h.2.2 j hjn).1, ob_s, b2i_if, if_pos hdj]
            dsimp only [bnd]
            rw [nI_1]
          · obtain ⟨g0, g1, g2, g3⟩ := hI
            have hzj := h.k g1
            refine ⟨z, ?_, g1, g2, g3⟩
            unfold f_X5_stepWord_0
            rw [hzj.1, g3]
            by_cases q : n ≤ enT T n a
            · rw [if_pos (nI_le q (by omega))]
            · have hdj : isLt (T (enT T n a)) = false := by
                have := runP_out (P := fun i => isLt (T i)) (a := bgT T n a) (n := n) (by rw [← hE]; omega)
                rw [← hE] at this
                exact this
              rw [if_neg (nI_ge (by omega) (by omega)), byteAt_5 mk hzj (by omega), ob_s, lt_5 (h.2.2 _ (by omega)).1, ob_s, b2i_if, if_neg (by rw [hdj]; decide)]
        · rw [if_neg cl]
          have hE : enT T n a = bgT T n a + 1 := by
            unfold enT
            rw [if_neg (by omega), if_neg cd, if_neg cl]
          by_cases c9 : T (bgT T n a) = 59
          · have hK : kdT T n a = 1 := by
              unfold kdT
              rw [if_neg (by omega), if_neg cd, if_neg cl, if_pos c9]
            rw [if_pos (show nI (T (bgT T n a)) = (59 : Int32) from congrArg nI c9)]
            exact ⟨_, rfl, kt.o (by omega) _, by rw [oI_ne _ (by decide)]; exact t6, by rw [oI_ne _ (by decide), hE]; exact t7, by rw [oI_self, hK]; rfl, fun z => by omega⟩
          · have hK : kdT T n a = 3 := by
              unfold kdT
              rw [if_neg (by omega), if_neg cd, if_neg cl, if_neg c9]
            rw [if_neg (show ¬ nI (T (bgT T n a)) = (59 : Int32) from nI_neq (b := 59) (by omega) (by decide) c9)]
            exact ⟨_, rfl, kt.o (by omega) _, by rw [oI_ne _ (by decide)]; exact t6, by rw [oI_ne _ (by decide), hE]; exact t7, by rw [oI_self, hK]; rfl, fun z => by omega⟩
    · have hE : enT T n a = bgT T n a := by
        unfold enT
        rw [if_pos (by omega)]
      have hK : kdT T n a = 0 := kd0.mpr (by omega)
      rw [if_neg (nI_nlt (by omega) (by omega))]
      exact ⟨_, rfl, (k1.o (by omega) _).o (by omega) _, by rw [oI_ne _ (by decide), oI_ne _ (by decide)]; exact k2, by rw [oI_ne _ (by decide), oI_self, hE], by rw [oI_self, hK]; rfl, fun z => by omega⟩
  · obtain ⟨g0, g1, g2⟩ := hI
    left
    have hz := h.k g1
    have hin : i < n := by omega
    have hbk : isBk (T i) = true := runP_in (P := fun i => isBk (T i)) g0 hi
    refine ⟨oI z 6 (nI (i + 1)), ?_, by omega, g1.o (by omega) _, oI_self _ _ _⟩
    unfold f_X5_step_8
    rw [hz.1, g2, if_neg (nI_ge hin (by omega)), byteAt_5 mk hz hin, ob_s, bk_5 (h.2.2 i hin).1, ob_s, b2i_if, if_pos hbk]
    dsimp only [bnd]
    rw [nI_1]
  · obtain ⟨g0, g1, g2⟩ := hI
    have hz := h.k g1
    refine ⟨z, ?_, g1, g2⟩
    unfold f_X5_step_8
    rw [hz.1, g2]
    by_cases q : n ≤ bgT T n a
    · rw [if_pos (nI_le q (by omega))]
    · have hbk : isBk (T (bgT T n a)) = false := runP_out (P := fun i => isBk (T i)) (by show bgT T n a < n; omega)
      rw [if_neg (nI_ge (by omega) (by omega)), byteAt_5 mk hz (by omega), ob_s, bk_5 (h.2.2 _ (by omega)).1, ob_s, b2i_if, if_neg (by rw [hbk]; decide)]
end TK
