/-! the text: the reference's tokens -/
def RB12 (st : OS) (T : Nat → Nat) (n : Nat) : Prop := st.1 6 = nI n ∧ n ≤ 700 ∧ ∀ i, i < n → T i < 256 ∧ st.2.2.1 4 i = nI (T i)
def KR12 (st x : OS) : Prop := x.2 = st.2 ∧ ∀ k, k ≠ 7 → k ≠ 8 → k ≠ 9 → k ≠ 10 → x.1 k = st.1 k
theorem KR12.rf {st : OS} : KR12 st st := ⟨rfl, fun _ _ _ _ _ => rfl⟩
theorem KR12.tr {st x y : OS} (h : KR12 st x) (g : KR12 x y) : KR12 st y := ⟨g.1.trans h.1, fun k a b c d => (g.2 k a b c d).trans (h.2 k a b c d)⟩
theorem KR12.o {st x : OS} (h : KR12 st x) {k : Nat} (hk : k = 7 ∨ k = 8 ∨ k = 9 ∨ k = 10) (v : Int32) : KR12 st (oI x k v) := ⟨by rw [oI_2]; exact h.1, fun j a b c d => by rw [oI_ne _ (by omega)]; exact h.2 j a b c d⟩
theorem RB12.k {st x : OS} {T : Nat → Nat} {n : Nat} (h : RB12 st T n) (k : KR12 st x) : RB12 x T n := ⟨(k.2 6 (by decide) (by decide) (by decide) (by decide)).trans h.1, h.2.1, fun i hi => by rw [k.1]; exact h.2.2 i hi⟩
/-- the reference's number of a kind -/
def rkT (k : Nat) : Nat := if k = 0 then 0 else if k = 1 then 3 else if k = 2 then 2 else if k = 3 then 4 else 1
def TK12 (x : OS) (T : Nat → Nat) (n a : Nat) : Prop := x.1 8 = nI (bgT T n a) ∧ x.1 7 = nI (enT T n a) ∧ x.1 9 = nI (rkT (kdT T n a)) ∧ (kdT T n a = 2 → x.1 10 = nI (nvT T n a))
section TKR
variable {st : OS} {T : Nat → Nat} {n : Nat}
theorem reads_12 (h : RB12 st T n) {a : Nat} (h7 : st.1 7 = nI a) (ha : a ≤ n) : ∃ x, f_X12_reads st = some x ∧ KR12 st x ∧ TK12 x T n a := by
  have hn := h.2.1
  have hbn := bgT_le (T := T) ha
  have hba := bgT_ge T n a
  have hen := enT_le (T := T) ha
  have heb := enT_ge T n a
  -- blanks
  have k0 := lpv_inv (f := f_X12_reads_0) (fun i z => a ≤ i ∧ KR12 st z ∧ z.1 7 = nI i) (bgT T n a) (fun x => KR12 st x ∧ x.1 7 = nI (bgT T n a)) (fun i z hi hI => Or.inl ?_) (fun z hI => ?_) a st hba ⟨Nat.le_refl _, KR12.rf, h7⟩
  · obtain ⟨x0, e0, k1, k2⟩ := k0
    obtain ⟨t, ht⟩ : ∃ t, t = oI x0 8 (nI (bgT T n a)) := ⟨_, rfl⟩
    have kt : KR12 st t := by rw [ht]; exact k1.o (by omega) _
    have t8 : t.1 8 = nI (bgT T n a) := by rw [ht, oI_self]
    have t7 : t.1 7 = nI (bgT T n a) := by rw [ht, oI_ne _ (by decide)]; exact k2
    have hRt := h.k kt
    unfold f_X12_reads
    rw [e0, ob_s]
    dsimp only [bnd]
    rw [k2, ← ht, t7, hRt.1]
    by_cases c0 : bgT T n a < n
    · obtain ⟨c256, hc⟩ := hRt.2.2 _ c0
      rw [if_pos (nI_lt c0 (by omega)), if_pos (inb_t (by omega) (by omega)), nI_clamp (by omega), hc, lt_12 c256, ob_s, b2i_if]
      by_cases cl : isLt (T (bgT T n a)) = true
      · have cd : ¬ isDg (T (bgT T n a)) = true := fun z => by
          unfold isDg at z
          unfold isLt at cl
          rw [Bool.and_eq_true, decide_eq_true_iff, decide_eq_true_iff] at z cl
          omega
        rw [if_pos cl]
        have hE : enT T n a = runP (fun i => isLt (T i)) (bgT T n a) n := by
          unfold enT
          rw [if_neg (by omega), if_neg cd, if_pos cl]
        have hK : kdT T n a = wrT T (bgT T n a) (enT T n a) := by
          unfold kdT
          rw [if_neg (by omega), if_neg cd, if_pos cl]
        have kN := lpv_inv (f := f_X12_reads_94) (fun j z => bgT T n a ≤ j ∧ KR12 st z ∧ z.1 8 = nI (bgT T n a) ∧ z.1 7 = nI j) (enT T n a) (fun x => KR12 st x ∧ x.1 8 = nI (bgT T n a) ∧ x.1 7 = nI (enT T n a)) (fun j z hj hI => Or.inl ?_) (fun z hI => ?_) (bgT T n a) t heb ⟨Nat.le_refl _, kt, t8, t7⟩
        · obtain ⟨x1, e1, l1, l2, l3⟩ := kN
          have hw := wk_ge T (bgT T n a) (enT T n a)
          rw [e1, ob_s]
          refine ⟨_, rfl, l1.o (by omega) _, by rw [oI_ne _ (by decide)]; exact l2, by rw [oI_ne _ (by decide)]; exact l3, ?_, fun z => by omega⟩
          rw [oI_self]
          unfold rkT
          rw [if_neg (by omega), if_neg (by omega), if_neg (by omega), if_neg (by omega)]
          rfl
        · obtain ⟨g0, g1, g2, g3⟩ := hI
          have hzj := h.k g1
          have hjn : j < n := by omega
          have hdj : isLt (T j) = true := runP_in (P := fun i => isLt (T i)) (a := bgT T n a) (n := n) g0 (by rw [← hE]; exact hj)
          refine ⟨oI z 7 (nI (j + 1)), ?_, by omega, g1.o (by omega) _, by rw [oI_ne _ (by decide)]; exact g2, oI_self _ _ _⟩
          unfold f_X12_reads_94 f_X12_see
          rw [hzj.1, g3, if_neg (nI_ge hjn (by omega)), if_pos (inb_t (by omega) (by omega)), nI_clamp (by omega), (hzj.2.2 j hjn).2, ob_s, lt_12 (h.2.2 j hjn).1, ob_s, b2i_if, if_pos hdj]
          dsimp only [bnd]
          rw [nI_1]
        · obtain ⟨g0, g1, g2, g3⟩ := hI
          have hzj := h.k g1
          refine ⟨z, ?_, g1, g2, g3⟩
          unfold f_X12_reads_94 f_X12_see
          rw [hzj.1, g3]
          by_cases q : n ≤ enT T n a
          · rw [if_pos (nI_le q (by omega)), ob_s]
            rfl
          · have hdj : isLt (T (enT T n a)) = false := by
              have := runP_out (P := fun i => isLt (T i)) (a := bgT T n a) (n := n) (by rw [← hE]; omega)
              rw [← hE] at this
              exact this
            rw [if_neg (nI_ge (by omega) (by omega)), if_pos (inb_t (by omega) (by omega)), nI_clamp (by omega), (hzj.2.2 _ (by omega)).2, ob_s, lt_12 (h.2.2 _ (by omega)).1, ob_s, b2i_if, if_neg (by rw [hdj]; decide)]
      · rw [if_neg cl, dg_12 c256, ob_s, b2i_if]
        by_cases cd : isDg (T (bgT T n a)) = true
        · rw [if_pos cd]
          have hE : enT T n a = runP (fun i => isDg (T i)) (bgT T n a) n := by
            unfold enT
            rw [if_neg (by omega), if_pos cd]
          have hK : kdT T n a = if enT T n a - bgT T n a ≤ 3 then 2 else 3 := by
            unfold kdT
            rw [if_neg (by omega), if_pos cd]
          have hd48 : ∀ i, isDg (T i) = true → 48 ≤ T i := fun i z => by
            unfold isDg at z
            rw [Bool.and_eq_true, decide_eq_true_iff, decide_eq_true_iff] at z
            exact z.1
          have kN := lpv_inv (f := f_X12_reads_141) (fun j z => bgT T n a ≤ j ∧ KR12 st z ∧ z.1 8 = nI (bgT T n a) ∧ z.1 7 = nI j ∧ z.1 10 = nI (vlT T (bgT T n a) (min 3 (j - bgT T n a)))) (enT T n a) (fun x => KR12 st x ∧ x.1 8 = nI (bgT T n a) ∧ x.1 7 = nI (enT T n a) ∧ x.1 10 = nI (vlT T (bgT T n a) (min 3 (enT T n a - bgT T n a)))) (fun j z hj hI => Or.inl ?_) (fun z hI => ?_) (bgT T n a) (oI t 10 0) heb ⟨Nat.le_refl _, kt.o (by omega) _, by rw [oI_ne _ (by decide)]; exact t8, by rw [oI_ne _ (by decide)]; exact t7, by rw [oI_self, Nat.sub_self]; rfl⟩
          · obtain ⟨x1, e1, l1, l2, l3, l4⟩ := kN
            rw [e1, ob_s, l2, l3, pk_sub heb]
            by_cases c3 : enT T n a - bgT T n a ≤ 3
            · rw [if_pos c3] at hK
              rw [if_pos (show nI (enT T n a - bgT T n a) ≤ (3 : Int32) from nI_le (b := 3) c3 (by decide))]
              refine ⟨_, rfl, l1.o (by omega) _, by rw [oI_ne _ (by decide)]; exact l2, by rw [oI_ne _ (by decide)]; exact l3, by rw [oI_self, hK]; rfl, fun _ => ?_⟩
              rw [oI_ne _ (by decide), l4, Nat.min_eq_right c3]
              rfl
            · rw [if_neg c3] at hK
              rw [if_neg (show ¬ nI (enT T n a - bgT T n a) ≤ (3 : Int32) from nI_ge (a := 3) (by omega) (by omega))]
              exact ⟨_, rfl, l1.o (by omega) _, by rw [oI_ne _ (by decide)]; exact l2, by rw [oI_ne _ (by decide)]; exact l3, by rw [oI_self, hK]; rfl, fun z => by rw [hK] at z; omega⟩
          · obtain ⟨hjb, g1, g2, g3, g4⟩ := hI
            have hzj := h.k g1
            have hjn : j < n := by omega
            have hdj : isDg (T j) = true := runP_in (P := fun i => isDg (T i)) (a := bgT T n a) (n := n) hjb (by rw [← hE]; exact hj)
            obtain ⟨j256, -⟩ := h.2.2 j hjn
            have j48 := hd48 j hdj
            have hs1 : f_X12_reads_141 z = if (3 : Int32) ≤ nI (j - bgT T n a) then some (.inl (oI (oI z 10 (z.1 10)) 7 (nI (j + 1)))) else some (.inl (oI (oI z 10 (10 * z.1 10 + nI (T j) - 48)) 7 (nI (j + 1)))) := by
              unfold f_X12_reads_141 f_X12_see
              rw [hzj.1, g3, if_neg (nI_ge hjn (by omega)), if_pos (inb_t (by omega) (by omega)), nI_clamp (by omega), (hzj.2.2 j hjn).2, ob_s, dg_12 j256, ob_s, b2i_if, if_pos hdj, g2, pk_sub hjb]
              dsimp only [bnd]
              rw [oI_ne _ (show (7 : Nat) ≠ 10 by decide), oI_ne _ (show (7 : Nat) ≠ 10 by decide), g3, nI_1, if_pos (show inb (nI j) 700 = true from inb_t (by omega) (by omega))]
            rw [hs1]
            by_cases c3 : 3 ≤ j - bgT T n a
            · rw [if_pos (show (3 : Int32) ≤ nI (j - bgT T n a) from nI_le (a := 3) c3 (by omega))]
              refine ⟨_, rfl, by omega, (g1.o (by omega) _).o (by omega) _, by rw [oI_ne _ (by decide), oI_ne _ (by decide)]; exact g2, oI_self _ _ _, ?_⟩
              rw [oI_ne _ (by decide), oI_self, g4, Nat.min_eq_left c3, Nat.min_eq_left (by omega)]
            · rw [if_neg (show ¬ (3 : Int32) ≤ nI (j - bgT T n a) from nI_ge (b := 3) (by omega) (by decide))]
              refine ⟨_, rfl, by omega, (g1.o (by omega) _).o (by omega) _, by rw [oI_ne _ (by decide), oI_ne _ (by decide)]; exact g2, oI_self _ _ _, ?_⟩
              rw [oI_ne _ (by decide), oI_self, g4, Nat.min_eq_right (by omega), Nat.min_eq_right (by omega), show (10 : Int32) = nI 10 from rfl, pk_mul, nI_add, show (48 : Int32) = nI 48 from rfl, pk_sub (by omega), show j + 1 - bgT T n a = (j - bgT T n a) + 1 by omega]
              show _ = nI (10 * vlT T (bgT T n a) (j - bgT T n a) + (T (bgT T n a + (j - bgT T n a)) - 48))
              rw [show bgT T n a + (j - bgT T n a) = j by omega]
              congr 1
              omega
          · obtain ⟨hjb, g1, g2, g3, g4⟩ := hI
            have hzj := h.k g1
            refine ⟨z, ?_, g1, g2, g3, g4⟩
            unfold f_X12_reads_141 f_X12_see
            rw [hzj.1, g3]
            by_cases q : n ≤ enT T n a
            · rw [if_pos (nI_le q (by omega)), ob_s]
              rfl
            · have hdj : isDg (T (enT T n a)) = false := by
                have := runP_out (P := fun i => isDg (T i)) (a := bgT T n a) (n := n) (by rw [← hE]; omega)
                rw [← hE] at this
                exact this
              rw [if_neg (nI_ge (by omega) (by omega)), if_pos (inb_t (by omega) (by omega)), nI_clamp (by omega), (hzj.2.2 _ (by omega)).2, ob_s, dg_12 (h.2.2 _ (by omega)).1, ob_s, b2i_if, if_neg (by rw [hdj]; decide)]
        · rw [if_neg cd]
          have hE : enT T n a = bgT T n a + 1 := by
            unfold enT
            rw [if_neg (by omega), if_neg cd, if_neg cl]
          by_cases c9 : T (bgT T n a) = 59
          · have hK : kdT T n a = 1 := by
              unfold kdT
              rw [if_neg (by omega), if_neg cd, if_neg cl, if_pos c9]
            rw [if_pos (show nI (T (bgT T n a)) = (59 : Int32) from congrArg nI c9)]
            refine ⟨_, rfl, (kt.o (by omega) _).o (by omega) _, ?_, ?_, ?_, fun z => by omega⟩
            · rw [oI_ne _ (by decide), oI_ne _ (by decide)]; exact t8
            · rw [oI_self, oI_ne _ (by decide), t7, nI_1, hE]
            · rw [oI_ne _ (by decide), oI_self, hK]; rfl
          · have hK : kdT T n a = 3 := by
              unfold kdT
              rw [if_neg (by omega), if_neg cd, if_neg cl, if_neg c9]
            rw [if_neg (show ¬ nI (T (bgT T n a)) = (59 : Int32) from nI_neq (b := 59) (by omega) (by decide) c9)]
            refine ⟨_, rfl, (kt.o (by omega) _).o (by omega) _, ?_, ?_, ?_, fun z => by omega⟩
            · rw [oI_ne _ (by decide), oI_ne _ (by decide)]; exact t8
            · rw [oI_self, oI_ne _ (by decide), t7, nI_1, hE]
            · rw [oI_ne _ (by decide), oI_self, hK]; rfl
    · have hE : enT T n a = bgT T n a := by
        unfold enT
        rw [if_pos (by omega)]
      have hK : kdT T n a = 0 := kd0.mpr (by omega)
      rw [if_neg (nI_nlt (by omega) (by omega))]
      exact ⟨_, rfl, kt.o (by omega) _, by rw [oI_ne _ (by decide)]; exact t8, by rw [oI_ne _ (by decide), hE]; exact t7, by rw [oI_self, hK]; rfl, fun z => by omega⟩
  · obtain ⟨g0, g1, g2⟩ := hI
    have hz := h.k g1
    have hin : i < n := by omega
    have hbk : isBk (T i) = true := runP_in (P := fun i => isBk (T i)) g0 hi
    obtain ⟨i256, hc⟩ := hz.2.2 i hin
    refine ⟨oI z 7 (nI (i + 1)), ?_, by omega, g1.o (by omega) _, oI_self _ _ _⟩
    unfold f_X12_reads_0
    rw [hz.1, g2, if_neg (nI_ge hin (by omega)), if_pos (inb_t (by omega) (by omega)), nI_clamp (by omega), hc]
    dsimp only [bnd]
    rw [nI_1]
    by_cases q : T i = 32
    · rw [if_pos (show nI (T i) = (32 : Int32) from congrArg nI q)]
    · rw [if_neg (show ¬ nI (T i) = (32 : Int32) from nI_neq (b := 32) (by omega) (by decide) q)]
      have : T i = 10 := by
        unfold isBk at hbk
        rw [Bool.or_eq_true, decide_eq_true_iff, decide_eq_true_iff] at hbk
        omega
      rw [if_pos (show nI (T i) = (10 : Int32) from congrArg nI this)]
  · obtain ⟨g0, g1, g2⟩ := hI
    have hz := h.k g1
    refine ⟨z, ?_, g1, g2⟩
    unfold f_X12_reads_0
    rw [hz.1, g2]
    by_cases q : n ≤ bgT T n a
    · rw [if_pos (nI_le q (by omega))]
    · have hbk : isBk (T (bgT T n a)) = false := runP_out (P := fun i => isBk (T i)) (by show bgT T n a < n; omega)
      obtain ⟨i256, hc⟩ := hz.2.2 (bgT T n a) (by omega)
      unfold isBk at hbk
      rw [Bool.or_eq_false_iff, decide_eq_false_iff_not, decide_eq_false_iff_not] at hbk
      rw [if_neg (nI_ge (by omega) (by omega)), if_pos (inb_t (by omega) (by omega)), nI_clamp (by omega), hc, if_neg (show ¬ nI (T (bgT T n a)) = (32 : Int32) from nI_neq (b := 32) (by omega) (by decide) hbk.2), if_neg (show ¬ nI (T (bgT T n a)) = (10 : Int32) from nI_neq (b := 10) (by omega) (by decide) hbk.1)]
end TKR
