/-! turnings: parts by marks -/
/-- what parting gives: finer kinds, each of one mark; what carries marks to like marks still does -/
def PB (N : Nat) (mk mk' : Nat → Int64) (l m l' m' : List Int64) : Prop := KP N l' m' ∧ RF l m l' m' ∧ l.length ≤ l'.length ∧ (l'.length = l.length → l' = l ∧ m' = m) ∧ ∀ f, BJ N f → RSP f l m → (∀ i, i < N → mk i = mk' (f i)) → RSP f l' m'
section T8P
variable {st : OS} {D N : Nat} {l m : List Int64}
theorem part_8 (hD : D < 17) (h : RW8 st D l m) (hN : N ≤ 64) (g : KP N l m) {mk mk' : Nat → Int64} (hm : ∀ i, i < N → st.2.2.2 9 i = mk i ∧ st.2.2.2 10 i = mk' i) :
    ∃ v x, f_X8_partByMarks st (nI D) = some (v, x) ∧ OR8 D st x ∧ (v = 0 ∨ v = 1) ∧ (v = 1 → ∃ l' m', RW8 x D l' m' ∧ PB N mk mk' l m l' m' ∧ l' = pbm mk 64 0 l ∧ ∀ k i j, k < l'.length → tb (wl l' k) i = true → tb (wl m' k) j = true → mk i = mk' j) ∧ ∀ f, BJ N f → RSP f l m → (∀ i, i < N → mk i = mk' (f i)) → v = 1 := by
  have key := lpv_inv (f := f_X8_partByMarks_2 (nI D)) (fun k z => k ≤ 64 ∧ z.2 = nI k ∧ OR8 D st z.1 ∧ ∃ l' m', RW8 z.1 D l' m' ∧ PB N mk mk' l m l' m' ∧ k ≤ l'.length ∧ pbm mk (64 - k) k l' = pbm mk 64 0 l ∧ ∀ o i j, o < k → tb (wl l' o) i = true → tb (wl m' o) j = true → mk i = mk' j) 64 (fun r => OR8 D st r.2 ∧ ((r.1 = 2 ∧ ∃ l' m', RW8 r.2 D l' m' ∧ PB N mk mk' l m l' m' ∧ l' = pbm mk 64 0 l ∧ ∀ k i j, k < l'.length → tb (wl l' k) i = true → tb (wl m' k) j = true → mk i = mk' j) ∨ (r.1 ≠ 2 ∧ r.1 < 2 ∧ ¬ ∃ f, BJ N f ∧ RSP f l m ∧ ∀ i, i < N → mk i = mk' (f i)))) (fun k z hk hI => ?_) (fun z hI => ?_) 0 (st, 0) (Nat.zero_le _) ⟨by omega, rfl, OR8.rf, l, m, h, ⟨g, RF.rf, Nat.le_refl _, fun _ => ⟨rfl, rfl⟩, fun _ _ h _ => h⟩, Nat.zero_le _, rfl, fun o i j ho => by omega⟩
  · obtain ⟨⟨r, x⟩, e1, e2, e3⟩ := key
    dsimp only at e2 e3
    rcases e3 with ⟨f1, f2⟩ | ⟨f1, f1', f2⟩
    · refine ⟨1, x, ?_, e2, Or.inr rfl, fun _ => f2, fun _ _ _ _ => rfl⟩
      unfold f_X8_partByMarks
      rw [e1, ob_s, f1]
      rfl
    · refine ⟨0, x, ?_, e2, Or.inl rfl, fun z => absurd z (by decide), fun f a b c => absurd ⟨f, a, b, c⟩ f2⟩
      unfold f_X8_partByMarks
      rw [e1, ob_s]
      dsimp only
      by_cases q : r = 0
      · rw [if_pos q]
      · rw [if_neg q, if_pos (by omega)]
  · obtain ⟨x, b⟩ := z
    obtain ⟨g0, g1, g2, l', m', g3, g4, g5, g6, g7⟩ := hI
    dsimp only at g1 g2 g3
    subst g1
    have hP := g4.1
    have hlen := hP.len
    have hlm := hP.2.2.1
    rcases Nat.lt_or_ge k l'.length with q | q
    · have hkm : k < m'.length := by omega
      have hne := hP.2.2.2.1 k q
      obtain ⟨t1, t2, t3⟩ := low_tb hne
      have hlN := hP.1.1 k _ q t1
      have hmk : ∀ i, i < N → x.2.2.2 9 i = mk i ∧ x.2.2.2 10 i = mk' i := fun i hi => by
        rw [g2.2.2.1 9 (by decide) (by decide), g2.2.2.1 10 (by decide) (by decide)]
        exact hm i hi
      have hsl : sel (wl l' k) (fun i => decide (x.2.2.2 9 i = mk (low (wl l' k)))) = sel (wl l' k) (fun i => decide (mk i = mk (low (wl l' k)))) := tb_ext (fun i _ => by
        rw [tb_sel, tb_sel]
        cases hb : tb (wl l' k) i with
        | false => rfl
        | true => rw [(hmk i (hP.1.1 k i q hb)).1])
      have hsm : sel (wl m' k) (fun i => decide (x.2.2.2 10 i = mk (low (wl l' k)))) = sel (wl m' k) (fun i => decide (mk' i = mk (low (wl l' k)))) := tb_ext (fun i _ => by
        rw [tb_sel, tb_sel]
        cases hb : tb (wl m' k) i with
        | false => rfl
        | true => rw [(hmk i (hP.2.1.1 k i hkm hb)).2])
      have hpb : pbm mk (64 - k) k l' = pbm mk (64 - (k + 1)) (k + 1) (if sel (wl l' k) (fun i => decide (mk i = mk (low (wl l' k)))) = wl l' k then l' else spl l' k (sel (wl l' k) (fun i => decide (mk i = mk (low (wl l' k)))))) := by
        rw [show 64 - k = (64 - (k + 1)) + 1 by omega]
        show (if k < l'.length then _ else _) = _
        rw [if_pos q]
      rw [hpb] at g6
      clear hpb
      have hlast : low (wl l' k) < 64 := t2
      obtain ⟨p, hp⟩ : ∃ p, p = sel (wl l' k) (fun i => decide (mk i = mk (low (wl l' k)))) := ⟨_, rfl⟩
      obtain ⟨qq, hq⟩ : ∃ qq, qq = sel (wl m' k) (fun i => decide (mk' i = mk (low (wl l' k)))) := ⟨_, rfl⟩
      rw [← hp] at hsl g6
      rw [← hq] at hsm
      have hps : ∀ i, tb p i = (tb (wl l' k) i && decide (mk i = mk (low (wl l' k)))) := fun i => by rw [hp]; exact tb_sel _ _ i
      have hqs : ∀ i, tb qq i = (tb (wl m' k) i && decide (mk' i = mk (low (wl l' k)))) := fun i => by rw [hq]; exact tb_sel _ _ i
      clear hp hq
      have hst : f_X8_partByMarks_2 (nI D) (x, nI k) = if nI (pcn p) = nI (pcn qq) then (f_X8_split x (nI D) (nI k) p qq).bind (fun y => some (.inl (y, nI (k + 1)))) else some (.inr (1, x)) := by
        unfold f_X8_partByMarks_2
        dsimp only
        rw [if_pos (inb_t (by omega) (by omega)), nI_clamp (by omega), g3.1, if_neg (nI_ge q (by omega)), if_neg (show ¬ (64 : Int32) ≤ nI k from nI_ge (b := 64) (by omega) (by decide)), ix64]
        dsimp only [bnd]
        rw [if_pos (inb_t (by omega) (by omega)), nI_clamp (by omega), g3.2.2.1 k q, lowest_10, ob_s, if_neg hne, if_neg (nI_pos (by omega)), if_pos (show nI (low (wl l' k)) < (64 : Int32) from nI_lt (b := 64) t2 (by decide)), if_pos (inb_t t2 (by omega)), nI_clamp (by omega), (hmk _ hlN).1, markedSo_8, ob_s, g3.2.2.2 k hkm, markedSo_8, ob_s, hsl, hsm, bitCount_13, ob_s, bitCount_13, ob_s, nI_1]
      have hpsub : ∀ i, tb p i = true → tb (wl l' k) i = true := fun i z => by rw [hps i, Bool.and_eq_true] at z; exact z.1
      have hqsub : ∀ i, tb qq i = true → tb (wl m' k) i = true := fun i z => by rw [hqs i, Bool.and_eq_true] at z; exact z.1
      have hp0 : p ≠ 0 := fun z => by
        have := hps (low (wl l' k))
        rw [z, tb_0, t1, decide_eq_true rfl] at this
        cases this
      have hpe : ∀ f, BJ N f → RSP f l m → (∀ i, i < N → mk i = mk' (f i)) → ∀ i, i < N → tb p i = tb qq (f i) := fun f f1 f2 f3 i hi => by
        have hR := g4.2.2.2.2 f f1 f2 f3
        rw [hps i, hqs (f i), hR.iff hP hi q, f3 i hi]
      by_cases hc : pcn p = pcn qq
      · left
        by_cases hw : p = wl l' k
        · have hqe : qq = wl m' k := tb_ext (fun i _ => by
            have h1 := pcn_dif hqsub
            have h2 := hP.2.2.2.2 k q
            have h3 : pcn (wl m' k &&& (qq ^^^ (-1))) = 0 := by rw [← hc, hw] at h1; omega
            rw [pcn_0] at h3
            have h4 := tb_dif (wl m' k) qq i
            rw [h3, tb_0] at h4
            cases hb : tb (wl m' k) i with
            | false => exact eq_false_of_ne_true (fun z => by have := hqsub i z; rw [hb] at this; cases this)
            | true =>
              rw [hb] at h4
              cases hb2 : tb qq i with
              | true => rfl
              | false => rw [hb2] at h4; cases h4)
          refine ⟨(x, nI (k + 1)), ?_, by omega, rfl, g2, l', m', g3, g4, by omega, ?_, fun o i j ho hi hj => ?_⟩
          · rw [hst, if_pos (congrArg nI hc), hw, split_same hD g3 (by omega) q, ob_s]
          · rw [if_pos hw] at g6; exact g6
          · rcases Nat.lt_or_ge o k with z | z
            · exact g7 o i j z hi hj
            · have : o = k := by omega
              subst this
              have a1 := hps i
              rw [hw, hi] at a1
              have a2 := hqs j
              rw [hqe, hj] at a2
              have b1 : mk i = mk (low (wl l' o)) := by simpa using a1
              have b2 : mk' j = mk (low (wl l' o)) := by simpa using a2
              rw [b1, b2]
        · have hP2 := hP.split q hpsub hqsub hp0 hw hc
          have hl2 := hP2.len
          rw [spl_len] at hl2
          obtain ⟨y, e1, e2, e3⟩ := split_8 hD g3 (by omega) q (q := qq) hw
          refine ⟨(y, nI (k + 1)), ?_, by omega, rfl, g2.tr e3, spl l' k p, spl m' k qq, e2, ⟨hP2, g4.2.1.tr (RF.split hlm q hpsub hqsub), by rw [spl_len]; have := g4.2.2.1; omega, fun z => by rw [spl_len] at z; have := g4.2.2.1; omega, fun f f1 f2 f3 => (g4.2.2.2.2 f f1 f2 f3).split hpsub hlm q (fun i hi => hpe f f1 f2 f3 i (hP.1.1 k i q hi))⟩, by rw [spl_len]; omega, ?_, fun o i j ho hi hj => ?_⟩
          · rw [hst, if_pos (congrArg nI hc), e1, ob_s]
          · rw [if_neg hw] at g6; exact g6
          · rw [wl_spl q] at hi
            rw [wl_spl hkm] at hj
            by_cases c : o = k
            · rw [if_pos c] at hi hj
              rw [hps i, Bool.and_eq_true] at hi
              rw [hqs j, Bool.and_eq_true] at hj
              rw [of_decide_eq_true hi.2, of_decide_eq_true hj.2]
            · rw [if_neg c, if_neg (by omega)] at hi hj
              exact g7 o i j (by omega) hi hj
      · right
        refine ⟨(1, x), ?_, g2, Or.inr ⟨show (1 : Nat) ≠ 2 by decide, show (1 : Nat) < 2 by decide, fun ⟨f, f1, f2, f3⟩ => hc ?_⟩⟩
        · rw [hst, if_neg (fun z => hc ((nI_eq (by have := pcn_le p; omega) (by have := pcn_le qq; omega)).mp z))]
        · exact pcn_bij hN f1 (fun i z => hP.1.1 k i q (hpsub i z)) (fun i z => hP.2.1.1 k i hkm (hqsub i z)) (hpe f f1 f2 f3)
    · right
      have hkl : k = l'.length := by omega
      refine ⟨(2, x), ?_, g2, Or.inl ⟨rfl, l', m', g3, g4, ?_, fun o i j ho hi hj => g7 o i j (by omega) hi hj⟩⟩
      · unfold f_X8_partByMarks_2
        dsimp only
        rw [if_pos (inb_t (by omega) (by omega)), nI_clamp (by omega), g3.1, if_pos (nI_le (by omega) (by omega))]
      · rw [← g6]
        rw [show 64 - k = (64 - (k + 1)) + 1 by omega]
        show l' = if k < l'.length then _ else l'
        rw [if_neg (by omega)]
  · obtain ⟨x, b⟩ := z
    obtain ⟨g0, g1, g2, l', m', g3, g4, g5, g6, g7⟩ := hI
    dsimp only at g1 g2 g3
    subst g1
    have hlen := g4.1.len
    refine ⟨(2, x), ?_, g2, Or.inl ⟨rfl, l', m', g3, g4, ?_, fun o i j ho hi hj => g7 o i j (by omega) hi hj⟩⟩
    · unfold f_X8_partByMarks_2
      dsimp only
      rw [if_pos (inb_t (by omega) (by omega)), nI_clamp (by omega), g3.1, if_pos (nI_le (by omega) (by omega))]
    · rw [← g6]
      rfl
end T8P
