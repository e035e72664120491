/-! questions: covers by lines; ovoid, ovoids, spread, spreads -/
section CVS
variable {y0 : OS} {w : Wd}
theorem sp_first {y : OS} (hy : RWo y w.1 w.2) (rec : OS → Int64 → Int64 → Int32 → Option OS) (set tk : Int64) (one : Int32) {l : Nat} (hl : l ≤ w.1) (h1 : ∀ j, j < l → tb tk j = true) (h2 : l < w.1 → tb tk l = false) : lpv (f_X12_spreadsFrom_3 rec y set tk one) 0 = some (nI l) := by
  have hn := hy.2.2.1
  refine lpv_for (f := f_X12_spreadsFrom_3 rec y set tk one) (fun i => nI i) l (fun i hi => ?_) ?_ 0 (Nat.zero_le _)
  · unfold f_X12_spreadsFrom_3
    rw [hy.1, if_neg (nI_ge (show i < w.1 by omega) (by omega)), has_12 (by omega), ob_s, h1 i hi, if_neg b2t]
    simp only [bnd, nI_1]
  · unfold f_X12_spreadsFrom_3
    rcases Nat.lt_or_ge l w.1 with q | q
    · rw [hy.1, if_neg (nI_ge q (by omega)), has_12 (by omega), ob_s, h2 q, if_pos b2f]
    · rw [hy.1, if_pos (nI_le q (by omega))]
theorem sp_opn (hW : WFw w) (hn : w.1 ≤ 64) (hm : w.2.length ≤ 64) {o : Bool} {nd : Nd} (h : NI (cvS w o) nd) {l : Nat} (hu : unh nd.1 = l) (p : Nat) : tb (opn (cvS w o) nd) p = true ↔ p < w.2.length ∧ tb (wl w.2 p) l = true ∧ wl w.2 p &&& nd.1 = 0 := by
  unfold opn
  rw [tb_dif, Bool.and_eq_true, hu]
  show tb (thrF w.2 l) p = true ∧ _ ↔ _
  rw [tb_thr hm]
  have hbar : p < w.2.length → (tb nd.2.1 p = true ↔ wl w.2 p &&& nd.1 ≠ 0) := fun hp => by
    rw [h.2 p, and_ne]
    constructor
    · rintro ⟨q, q1, q2, q3⟩
      obtain ⟨j, j1, j2, j3⟩ := tb_br.mp q3
      exact ⟨j, j1, ((tb_thr hm).mp j3).2, (h.1 j).mpr ⟨q, q1, q2, j2⟩⟩
    · rintro ⟨j, j1, j2, j3⟩
      obtain ⟨q, q1, q2, q3⟩ := (h.1 j).mp j3
      exact ⟨q, q1, q2, tb_br.mpr ⟨j, j1, q3, (tb_thr hm).mpr ⟨hp, j2⟩⟩⟩
  constructor
  · rintro ⟨⟨h1, h2⟩, h3⟩
    refine ⟨h1, h2, ?_⟩
    false_or_by_contra
    rename_i hc
    rw [(hbar h1).mpr hc] at h3
    cases h3
  · rintro ⟨h1, h2, h3⟩
    refine ⟨⟨h1, h2⟩, ?_⟩
    have hb : tb nd.2.1 p = false := eq_false_of_ne_true (fun z => (hbar h1).mp z h3)
    rw [hb]
    rfl
theorem ref_S (hW : WFw w) (hn : w.1 ≤ 64) (hm : w.2.length ≤ 64) {o : Bool} {one : Int32} (ho : one = 0 ↔ o = false) : ∀ (f n : Nat) (nd : Nd) (s : Sg) (y : OS), f < n → 64 ≤ f + pcn nd.1 → NI (cvS w o) nd → ndok (cvS w o) nd 0 → RS y0 w y s → ∃ v, f_X12_spreadsFrom n y nd.2.2 nd.1 one = some v ∧ RS y0 w v (Rs (cvS w o) f nd s) := by
  intro f
  induction f with
  | zero =>
    intro n nd s y _ hf _ hN _
    obtain ⟨_, h2, h3⟩ := hN.fr
    exfalso
    have : pcn nd.1 < pcn (-1 : Int64) := pcn_strict (fun i hi => tb_m1 i (tb_lt hi)) (fun z => by
      have h9 := tb_m1 (unh nd.1) h2
      rw [← z, h3] at h9
      cases h9)
    have := pcn_le (-1 : Int64)
    omega
  | succ f ih =>
    intro n nd s y hfn hf hI hN hS
    obtain ⟨n, rfl⟩ : ∃ k, n = k + 1 := ⟨n - 1, by omega⟩
    obtain ⟨u1, u2, u3⟩ := hN.fr
    have hlo := (low_tb u1).2.2
    have hgoal : (cvS w o).2.2.2.1 = fst64 w.1 := rfl
    have hlow : ∀ i, i < unh nd.1 → tb nd.1 i = true := fun i hi => by
      have h9 := hlo i (by unfold unh at hi; exact hi)
      rw [tb_not (by omega)] at h9
      cases hb : tb nd.1 i with
      | true => rfl
      | false => rw [hb] at h9; cases h9
    have hl : unh nd.1 < w.1 := by
      false_or_by_contra
      rename_i hc
      refine hN.2.1 (tb_ext (fun i _ => ?_))
      rw [hgoal, tb_fst64 hn]
      by_cases q : i < w.1
      · rw [decide_eq_true q]
        exact hlow i (by omega)
      · rw [decide_eq_false q]
        refine eq_false_of_ne_true (fun z => q ?_)
        have := hN.1 i z
        rw [hgoal, tb_fst64 hn] at this
        exact of_decide_eq_true this
    have hfirst := sp_first (y := y) hS.2.1.1 (f_X12_spreadsFrom n) nd.2.2 nd.1 one (Nat.le_of_lt hl) hlow (fun _ => u3)
    have hopn := sp_opn hW hn hm hI rfl
    have P : ∀ k p, p + k = 64 → ∀ (s : Sg) (y : OS), RS y0 w y s → ∃ v, lpv (f_X12_spreadsFrom_45 (f_X12_spreadsFrom n) nd.2.2 nd.1 one (nI (unh nd.1))) (y, nI p) = some v ∧ RS y0 w v (FP (cvS w o) (Rs (cvS w o) f) nd k p s) := by
      intro k
      induction k with
      | zero =>
        intro p hp s y hS
        refine ⟨y, lpv_out ?_, hS⟩
        unfold f_X12_spreadsFrom_45
        dsimp only
        rw [hS.2.1.1.2.1, if_pos (nI_le (by omega) (by omega))]
      | succ k ihk =>
        intro p hp s y hS
        obtain ⟨s1, s2, s3, s4, s5, s6, s7, s8⟩ := hS
        have hS : RS y0 w y s := ⟨s1, s2, s3, s4, s5, s6, s7, s8⟩
        rcases Nat.lt_or_ge p w.2.length with hpn | hpn
        · cases hst : stp (cvS w o) s with
          | true =>
            rw [fp_stop hst]
            refine ⟨y, lpv_out ?_, hS⟩
            unfold f_X12_spreadsFrom_45
            dsimp only
            rw [s2.1.2.1, if_neg (nI_ge hpn (by omega)), s5]
            cases hsp : s.2.2.2 with
            | true => rw [if_neg b2t]
            | false =>
              unfold stp at hst
              rw [hsp, Bool.false_or, Bool.and_eq_true] at hst
              have h9 : o = true := hst.1
              have h10 := of_decide_eq_true hst.2
              rw [if_pos b2f, if_neg (fun z => by rw [ho.mp z] at h9; cases h9), s3, if_pos (show (0 : Int32) < nI s.2.1 from nI_lt (a := 0) h10 (by omega))]
          | false =>
            have hsp : s.2.2.2 = false := by
              unfold stp at hst
              rw [Bool.or_eq_false_iff] at hst
              exact hst.1
            have hloop : f_X12_spreadsFrom_45 (f_X12_spreadsFrom n) nd.2.2 nd.1 one (nI (unh nd.1)) (y, nI p) = if tb (wl w.2 p) (unh nd.1) = true ∧ wl w.2 p &&& nd.1 = 0 then (f_X12_mayTry y).bind (fun x24 => match x24 with | (v26, t27) => (if v26 = 0 then some (.inl ((t27, nI (p + 1)))) else (f_X12_spreadsFrom n t27 (nd.2.2 ||| bit1 p) (nd.1 ||| (t27.2.2.2 3 p)) one).bind (fun x34 => some (.inl ((x34, nI (p + 1))))))) else some (.inl (y, nI (p + 1))) := by
              unfold f_X12_spreadsFrom_45
              dsimp only
              rw [s2.1.2.1, if_neg (nI_ge hpn (by omega)), s5, hsp, if_pos b2f, if_pos (inb_t (by omega) (by omega)), nI_clamp (by omega), s2.1.2.2.2.2 _ hpn, has_12 (by omega), ob_s, bit_12 (by omega)]
              simp only [lg_cmp_eq, bnd, nI_1, ob_s]
              have same : ∀ (X : Option ((OS × Int32) ⊕ OS)), (if one = 0 then X else if 0 < y.1 22 then some (.inr y) else X) = X := fun X => by
                by_cases z : one = 0
                · rw [if_pos z]
                · rw [if_neg z, s3]
                  unfold stp at hst
                  rw [hsp, Bool.false_or, Bool.and_eq_false_iff] at hst
                  have h9 : ¬ (0 : Int32) < nI s.2.1 := by
                    rcases hst with h | h
                    · exact absurd (ho.mpr h) z
                    · have := of_decide_eq_false h
                      rw [show s.2.1 = 0 by omega]
                      decide
                  rw [if_neg h9]
              rw [same]
              cases hb : tb (wl w.2 p) (unh nd.1) with
              | false => rw [if_pos b2f, if_neg (fun z => by cases z.1)]
              | true =>
                rw [if_neg b2t]
                by_cases hc : wl w.2 p &&& nd.1 = 0
                · rw [if_pos hc, if_pos ⟨rfl, hc⟩]
                · rw [if_neg hc, if_neg (fun z => hc z.2)]
            simp only [FP]
            by_cases hop : tb (opn (cvS w o) nd) p = true
            · rw [if_pos ((hopn p).mp hop).2] at hloop
              obtain ⟨v, e1, e2⟩ := rs_try hS hsp
              rw [e1, ob_s] at hloop
              dsimp only at hloop
              by_cases q : 100000 ≤ s.1
              · rw [if_pos q] at e2
                rw [decide_eq_false (by omega), if_pos b2f] at hloop
                rw [show stepP (cvS w o) (Rs (cvS w o) f) nd p s = spnt s by unfold stepP; rw [hst, if_neg (by decide), if_pos hop, if_pos q], lpv_in hloop]
                exact ihk (p + 1) (by omega) _ v e2
              · rw [if_neg q] at e2
                rw [decide_eq_true (by omega), if_neg b2t, e2.2.1.1.2.2.2.2 p hpn] at hloop
                by_cases g : (kid (cvS w o) nd p).1 = (cvS w o).2.2.2.1
                · rw [show stepP (cvS w o) (Rs (cvS w o) f) nd p s = fnd s (kid (cvS w o) nd p).2.2 by unfold stepP; rw [hst, if_neg (by decide), if_pos hop, if_neg q, if_pos g]]
                  obtain ⟨n', rfl⟩ : ∃ k, n = k + 1 := ⟨n - 1, by omega⟩
                  have hall := sp_first (y := v) e2.2.1.1 (f_X12_spreadsFrom n') (nd.2.2 ||| bit1 p) (nd.1 ||| wl w.2 p) one (Nat.le_refl _) (fun j hj => by
                    have g : nd.1 ||| wl w.2 p = fst64 w.1 := g
                    rw [g, tb_fst64 hn]
                    exact decide_eq_true hj) (fun z => by omega)
                  obtain ⟨v2, f1, f2⟩ := rs_finds e2 s7 (kid (cvS w o) nd p).2.2
                  have hleaf : f_X12_spreadsFrom (n' + 1) v (nd.2.2 ||| bit1 p) (nd.1 ||| wl w.2 p) one = some v2 := by
                    show f_X12_spreadsFrom_T (f_X12_spreadsFrom n') v (nd.2.2 ||| bit1 p) (nd.1 ||| wl w.2 p) one = _
                    unfold f_X12_spreadsFrom_T
                    rw [hall, ob_s, e2.2.1.1.1, if_pos rfl]
                    rw [show f_X12_finds v (nd.2.2 ||| bit1 p) = some v2 from f1, ob_s]
                  rw [hleaf, ob_s] at hloop
                  rw [lpv_in hloop]
                  exact ihk (p + 1) (by omega) _ v2 f2
                · rw [show stepP (cvS w o) (Rs (cvS w o) f) nd p s = Rs (cvS w o) f (kid (cvS w o) nd p) (tri s) by unfold stepP; rw [hst, if_neg (by decide), if_pos hop, if_neg q, if_neg g]]
                  have hK := (ndok.nx (d := pcn nd.1) (gc_S hW hn hm o) ⟨hN.1, hN.2.1, Nat.le_refl _⟩ hop g)
                  obtain ⟨v2, f1, f2⟩ := ih n (kid (cvS w o) nd p) (tri s) v (by omega) (by have := hK.2.2; omega) (hI.kid (by omega)) ⟨hK.1, hK.2.1, Nat.zero_le _⟩ e2
                  have f1 : f_X12_spreadsFrom n v (nd.2.2 ||| bit1 p) (nd.1 ||| wl w.2 p) one = some v2 := f1
                  rw [f1, ob_s] at hloop
                  rw [lpv_in hloop]
                  exact ihk (p + 1) (by omega) _ v2 f2
            · rw [if_neg (fun z => hop ((hopn p).mpr ⟨hpn, z⟩))] at hloop
              rw [show stepP (cvS w o) (Rs (cvS w o) f) nd p s = s by unfold stepP; rw [if_neg hop, ite_self], lpv_in hloop]
              exact ihk (p + 1) (by omega) s y hS
        · rw [fp_none (fun i hi => eq_false_of_ne_true (fun z => by
            have := ((hopn i).mp z).1
            omega))]
          refine ⟨y, lpv_out ?_, hS⟩
          unfold f_X12_spreadsFrom_45
          dsimp only
          rw [s2.1.2.1, if_pos (nI_le (by omega) (by omega))]
    obtain ⟨v, e1, e2⟩ := P 64 0 rfl s y hS
    refine ⟨v, ?_, e2⟩
    show f_X12_spreadsFrom_T (f_X12_spreadsFrom n) y nd.2.2 nd.1 one = _
    unfold f_X12_spreadsFrom_T
    rw [hfirst, ob_s, hS.2.1.1.1, if_neg (nI_neq (by omega) (by omega) (by omega)), show ((y, (0 : Int32)) : OS × Int32) = (y, nI 0) from rfl, e1, ob_s]
/-- with one wanted: what is spent found none -/
theorem one_sp {c : Cv} (h : c.2.2.2.2 = true) : ∀ f nd s, (s.2.2.2 = true → s.2.1 = 0) → ((Rs c f nd s).2.2.2 = true → (Rs c f nd s).2.1 = 0) := by
  intro f
  induction f with
  | zero => intro nd s hs; exact hs
  | succ f ih =>
    intro nd s hs
    simp only [Rs]
    have P : ∀ k p s, (s.2.2.2 = true → s.2.1 = 0) → ((FP c (Rs c f) nd k p s).2.2.2 = true → (FP c (Rs c f) nd k p s).2.1 = 0) := by
      intro k
      induction k with
      | zero => intro p s hs; exact hs
      | succ k ihk =>
        intro p s hs
        simp only [FP]
        refine ihk (p + 1) _ ?_
        unfold stepP
        by_cases h1 : stp c s = true
        · rw [if_pos h1]; exact hs
        · rw [if_neg h1]
          by_cases h2 : tb (opn c nd) p = true
          · rw [if_pos h2]
            unfold stp at h1
            rw [h, Bool.true_and, Bool.or_eq_true] at h1
            have h3 : s.2.2.2 = false := by
              cases hb : s.2.2.2 with
              | true => exact absurd (Or.inl hb) h1
              | false => rfl
            have h4 : s.2.1 = 0 := by
              rcases Nat.eq_zero_or_pos s.2.1 with q | q
              · exact q
              · exact absurd (Or.inr (decide_eq_true q)) h1
            by_cases h5 : 100000 ≤ s.1
            · rw [if_pos h5]
              intro _
              exact h4
            · rw [if_neg h5]
              by_cases h6 : (kid c nd p).1 = c.2.2.2.1
              · rw [if_pos h6]
                intro z
                unfold fnd at z
                dsimp only at z
                rw [h3] at z
                cases z
              · rw [if_neg h6]
                exact ih _ _ (fun z => h4)
          · rw [if_neg h2]; exact hs
    exact P 64 0 s hs
theorem root_sp {c : Cv} (h : c.2.2.2.2 = true) : (rootS c).2.2.2 = true → (rootS c).2.1 = 0 := by
  unfold rootS
  by_cases g : c.2.2.2.1 = 0
  · rw [if_pos g]; intro z; cases z
  · rw [if_neg g]; exact one_sp h _ _ _ (fun z => by cases z)
theorem begins_12 {st : OS} (h : RWo st w.1 w.2) : ∃ x, f_X12_begins st = some x ∧ RS st w x (0, 0, 0, false) := by
  have k : Kp st (oJ (oI (oI (oI st 21 0) 22 0) 23 0) 24 (-1)) := Keep.oJ (Keep.oI (Keep.oI (Keep.oI Keep.rf rfl) rfl) rfl)
  have hR := h.kp k
  refine ⟨oB (oJ (oI (oI (oI st 21 0) 22 0) 23 0) 24 (-1)) 20 (filL (nearF w.2) ((oJ (oI (oI (oI st 21 0) 22 0) 23 0) 24 (-1)).2.2.2 20) w.1), ?_, Keep.tr k (kp_near _), ⟨hR.kp (kp_near _), fun p hp => by rw [oB_self, filL_in hp]⟩, ?_, ?_, ?_, fun _ => ?_, Nat.le_refl _, Nat.zero_le _⟩
  · unfold f_X12_begins
    dsimp only [bnd]
    rw [layNears_12 hR, ob_s]
  · show (oJ (oI (oI (oI st 21 0) 22 0) 23 0) 24 (-1)).1 22 = _
    rw [oJ_1, oI_ne _ (by decide), oI_self]; rfl
  · show (oJ (oI (oI (oI st 21 0) 22 0) 23 0) 24 (-1)).2.1 24 = _
    rw [oJ_self]; rfl
  · show (oJ (oI (oI (oI st 21 0) 22 0) 23 0) 24 (-1)).1 23 = _
    rw [oJ_1, oI_self]; rfl
  · show (oJ (oI (oI (oI st 21 0) 22 0) 23 0) 24 (-1)).1 21 = _
    rw [oJ_1, oI_ne _ (by decide), oI_ne _ (by decide), oI_self]; rfl
theorem fst0 {n : Nat} (hn : n ≤ 64) : fst64 n = 0 ↔ n = 0 := by
  constructor
  · intro z
    rcases Nat.eq_zero_or_pos n with q | q
    · exact q
    · have : tb (fst64 n) 0 = true := by rw [tb_fst64 hn]; exact decide_eq_true q
      rw [z, tb_0] at this
      cases this
  · intro z; rw [z]; exact fst64_0
/-- the end of the reference's search: as the class's root says, but for tries -/
def RE (y0 : OS) (w : Wd) (y : OS) (s : Sg) : Prop := Kp y0 y ∧ y.1 22 = nI s.2.1 ∧ y.2.1 24 = (if s.2.1 = 0 then -1 else s.2.2.1) ∧ y.1 23 = b2i s.2.2.2 ∧ s.2.1 ≤ 100000
theorem all_O (hW : WFw w) {st : OS} (h : RWo st w.1 w.2) {o : Bool} {one : Int32} (ho : one = 0 ↔ o = false) : ∃ x v, f_X12_begins st = some x ∧ f_X12_ovoidsFrom 70 x 0 one = some v ∧ RE st w v (rootS (cvO w o)) := by
  have hn := h.2.2.1
  have hm := h.2.2.2.1
  obtain ⟨x, e1, e2⟩ := begins_12 h
  by_cases g : w.2.length = 0
  · have hr : rootS (cvO w o) = fnd (0, 0, 0, false) 0 := by
      unfold rootS
      rw [if_pos (show (cvO w o).2.2.2.1 = 0 from (fst0 hm).mpr g)]
      rfl
    have hall := ov_first (y := x) e2.2.1.1 (f_X12_ovoidsFrom 69) 0 one (Nat.le_refl _) (fun j hj => by omega) (fun z => by omega)
    have e3 : ∃ v, f_X12_finds x 0 = some v ∧ RE st w v (rootS (cvO w o)) := by
      rw [hr]
      obtain ⟨s1, s2, s3, s4, s5, s6, s7, s8⟩ := e2
      unfold f_X12_finds
      rw [s3, if_pos (show nI 0 = 0 from rfl)]
      dsimp only [bnd]
      rw [oJ_1, s3]
      refine ⟨_, rfl, Keep.oI (Keep.oJ s1) rfl, ?_, ?_, ?_, by decide⟩
      · rw [oI_self]; rfl
      · rw [oI_2, oJ_self]; rfl
      · rw [oI_ne _ (by decide), oJ_1]; exact s5
    obtain ⟨v, f1, f2⟩ := e3
    refine ⟨x, v, e1, ?_, f2⟩
    show f_X12_ovoidsFrom_T (f_X12_ovoidsFrom 69) x 0 one = _
    unfold f_X12_ovoidsFrom_T
    rw [hall, ob_s, e2.2.1.1.2.1, if_pos rfl, f1, ob_s]
  · have hr : rootS (cvO w o) = Rs (cvO w o) 64 (0, 0, 0) (0, 0, 0, false) := by
      unfold rootS
      rw [if_neg (show ¬ (cvO w o).2.2.2.1 = 0 from fun z => g ((fst0 hm).mp z))]
    obtain ⟨v, f1, f2⟩ := ref_O hW hn hm ho 64 70 (0, 0, 0) (0, 0, 0, false) x (by omega) (by omega) NI.root ⟨fun i hi => absurd hi (by dsimp only; rw [tb_0]; decide), fun z => g ((fst0 hm).mp (Eq.symm z)), Nat.zero_le _⟩ e2
    rw [← hr] at f2
    exact ⟨x, v, e1, f1, f2.1, f2.2.2.1, f2.2.2.2.1, f2.2.2.2.2.1, by have := f2.2.2.2.2.2.2; omega⟩
theorem all_S (hW : WFw w) {st : OS} (h : RWo st w.1 w.2) {o : Bool} {one : Int32} (ho : one = 0 ↔ o = false) : ∃ x v, f_X12_begins st = some x ∧ f_X12_spreadsFrom 70 x 0 0 one = some v ∧ RE st w v (rootS (cvS w o)) := by
  have hn := h.2.2.1
  have hm := h.2.2.2.1
  obtain ⟨x, e1, e2⟩ := begins_12 h
  by_cases g : w.1 = 0
  · have hr : rootS (cvS w o) = fnd (0, 0, 0, false) 0 := by
      unfold rootS
      rw [if_pos (show (cvS w o).2.2.2.1 = 0 from (fst0 hn).mpr g)]
      rfl
    have hall := sp_first (y := x) e2.2.1.1 (f_X12_spreadsFrom 69) 0 0 one (Nat.le_refl _) (fun j hj => by omega) (fun z => by omega)
    have e3 : ∃ v, f_X12_finds x 0 = some v ∧ RE st w v (rootS (cvS w o)) := by
      rw [hr]
      obtain ⟨s1, s2, s3, s4, s5, s6, s7, s8⟩ := e2
      unfold f_X12_finds
      rw [s3, if_pos (show nI 0 = 0 from rfl)]
      dsimp only [bnd]
      rw [oJ_1, s3]
      refine ⟨_, rfl, Keep.oI (Keep.oJ s1) rfl, ?_, ?_, ?_, by decide⟩
      · rw [oI_self]; rfl
      · rw [oI_2, oJ_self]; rfl
      · rw [oI_ne _ (by decide), oJ_1]; exact s5
    obtain ⟨v, f1, f2⟩ := e3
    refine ⟨x, v, e1, ?_, f2⟩
    show f_X12_spreadsFrom_T (f_X12_spreadsFrom 69) x 0 0 one = _
    unfold f_X12_spreadsFrom_T
    rw [hall, ob_s, e2.2.1.1.1, if_pos rfl, f1, ob_s]
  · have hr : rootS (cvS w o) = Rs (cvS w o) 64 (0, 0, 0) (0, 0, 0, false) := by
      unfold rootS
      rw [if_neg (show ¬ (cvS w o).2.2.2.1 = 0 from fun z => g ((fst0 hn).mp z))]
    obtain ⟨v, f1, f2⟩ := ref_S hW hn hm ho 64 70 (0, 0, 0) (0, 0, 0, false) x (by omega) (by omega) NI.root ⟨fun i hi => absurd hi (by dsimp only; rw [tb_0]; decide), fun z => g ((fst0 hn).mp (Eq.symm z)), Nat.zero_le _⟩ e2
    rw [← hr] at f2
    exact ⟨x, v, e1, f1, f2.1, f2.2.2.1, f2.2.2.2.1, f2.2.2.2.2.1, by have := f2.2.2.2.2.2.2; omega⟩
theorem re_F {y : OS} {s : Sg} (h : RE y0 w y s) (hs : s.2.2.2 = true → s.2.1 = 0) : (if y.1 23 = 0 then y.2.1 24 else -2) = ansF s := by
  obtain ⟨_, _, h2, h3, _⟩ := h
  rw [h2, h3]
  unfold ansF
  cases hb : s.2.2.2 with
  | true => rw [if_neg b2t, if_pos (hs hb), if_pos rfl]
  | false => rw [if_pos b2f, if_neg (show ¬ false = true by decide)]
theorem re_M {y : OS} {s : Sg} (h : RE y0 w y s) : (if y.1 23 = 0 then y.1 22 else -2) = ansM s := by
  obtain ⟨_, h1, h2, h3, _⟩ := h
  rw [h1, h3]
  unfold ansM
  cases hb : s.2.2.2 with
  | true => rw [if_neg b2t, if_pos rfl]
  | false => rw [if_pos b2f, if_neg (show ¬ false = true by decide)]
theorem q_ovoid (hW : WFw w) {st : OS} (h : RWo st w.1 w.2) : ∃ k, (∀ stt stn scr, CW stn w → ∃ x, f_X11_ovoid stt stn scr = some (k, x)) ∧ ∃ x, f_X12_ovoid st = some (k, x) ∧ Kt st x := by
  obtain ⟨x, v, e1, e2, e3⟩ := all_O hW (h.th 0) (o := true) (one := 1) (by decide)
  refine ⟨ansF (rootS (cvO w true)), fun stt stn scr hw => ?_, v, ?_, Kt.p e3.1⟩
  · obtain ⟨y, f1, f2⟩ := takeP_0 hw hW scr true
    obtain ⟨z, g1, g2, g3⟩ := seek_0 (one := 1) (show (1 : Int32) = 0 ↔ true = false by decide) (gc_O hW h.2.2.1 h.2.2.2.1 true) f2
    refine ⟨z, ?_⟩
    unfold f_X11_ovoid
    rw [f1, ob_s, g1, ob_s, first_0 g2 g3 (by have := e3.2.2.2.2; omega), ob_s]
  · unfold f_X12_ovoid
    dsimp only [bnd]
    rw [e1, ob_s, e2, ob_s, ← re_F e3 (root_sp rfl)]
    split <;> rfl
theorem q_ovoids (hW : WFw w) {st : OS} (h : RWo st w.1 w.2) : ∃ k, (∀ stt stn scr, CW stn w → ∃ x, f_X11_ovoids stt stn scr = some (k, x)) ∧ ∃ x, f_X12_ovoids st = some (k, x) ∧ Kt st x := by
  obtain ⟨x, v, e1, e2, e3⟩ := all_O hW (h.th 0) (o := false) (one := 0) (by decide)
  refine ⟨ansM (rootS (cvO w false)), fun stt stn scr hw => ?_, v, ?_, Kt.p e3.1⟩
  · obtain ⟨y, f1, f2⟩ := takeP_0 hw hW scr false
    obtain ⟨z, g1, g2, g3⟩ := seek_0 (one := 0) (show (0 : Int32) = 0 ↔ false = false by decide) (gc_O hW h.2.2.1 h.2.2.2.1 false) f2
    refine ⟨z, ?_⟩
    unfold f_X11_ovoids
    rw [f1, ob_s, g1, ob_s, many_0 g2 g3, ob_s]
  · unfold f_X12_ovoids
    dsimp only [bnd]
    rw [e1, ob_s, e2, ob_s, ← re_M e3]
    split <;> rfl
theorem q_spread (hW : WFw w) {st : OS} (h : RWo st w.1 w.2) : ∃ k, (∀ stt stn scr, CW stn w → ∃ x, f_X11_spread stt stn scr = some (k, x)) ∧ ∃ x, f_X12_spread st = some (k, x) ∧ Kt st x := by
  obtain ⟨x, v, e1, e2, e3⟩ := all_S hW (h.th 0) (o := true) (one := 1) (by decide)
  refine ⟨ansF (rootS (cvS w true)), fun stt stn scr hw => ?_, v, ?_, Kt.p e3.1⟩
  · obtain ⟨y, f1, f2⟩ := takeL_0 hw hW scr true
    obtain ⟨z, g1, g2, g3⟩ := seek_0 (one := 1) (show (1 : Int32) = 0 ↔ true = false by decide) (gc_S hW h.2.2.1 h.2.2.2.1 true) f2
    refine ⟨z, ?_⟩
    unfold f_X11_spread
    rw [f1, ob_s, g1, ob_s, first_0 g2 g3 (by have := e3.2.2.2.2; omega), ob_s]
  · unfold f_X12_spread
    dsimp only [bnd]
    rw [e1, ob_s, e2, ob_s, ← re_F e3 (root_sp rfl)]
    split <;> rfl
theorem q_spreads (hW : WFw w) {st : OS} (h : RWo st w.1 w.2) : ∃ k, (∀ stt stn scr, CW stn w → ∃ x, f_X11_spreads stt stn scr = some (k, x)) ∧ ∃ x, f_X12_spreads st = some (k, x) ∧ Kt st x := by
  obtain ⟨x, v, e1, e2, e3⟩ := all_S hW (h.th 0) (o := false) (one := 0) (by decide)
  refine ⟨ansM (rootS (cvS w false)), fun stt stn scr hw => ?_, v, ?_, Kt.p e3.1⟩
  · obtain ⟨y, f1, f2⟩ := takeL_0 hw hW scr false
    obtain ⟨z, g1, g2, g3⟩ := seek_0 (one := 0) (show (0 : Int32) = 0 ↔ false = false by decide) (gc_S hW h.2.2.1 h.2.2.2.1 false) f2
    refine ⟨z, ?_⟩
    unfold f_X11_spreads
    rw [f1, ob_s, g1, ob_s, many_0 g2 g3, ob_s]
  · unfold f_X12_spreads
    dsimp only [bnd]
    rw [e1, ob_s, e2, ob_s, ← re_M e3]
    split <;> rfl
end CVS
