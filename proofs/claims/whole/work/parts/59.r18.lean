/-! questions: covers, the reference -/
def RS (y0 : OS) (w : Wd) (y : OS) (s : Sg) : Prop := Kp y0 y ∧ RN y w ∧ y.1 22 = nI s.2.1 ∧ y.2.1 24 = (if s.2.1 = 0 then -1 else s.2.2.1) ∧ y.1 23 = b2i s.2.2.2 ∧ (s.2.2.2 = false → y.1 21 = nI s.1) ∧ s.2.1 ≤ s.1 ∧ s.1 ≤ 100000
/-- what a node's sets say of its taken ones -/
def NI (c : Cv) (nd : Nd) : Prop := (∀ t, tb nd.1 t = true ↔ ∃ p, p < 64 ∧ tb nd.2.2 p = true ∧ tb (c.2.1 p) t = true) ∧ ∀ q, tb nd.2.1 q = true ↔ ∃ p, p < 64 ∧ tb nd.2.2 p = true ∧ tb (c.2.2.1 p) q = true
theorem ni_or {a b : Int64} {p : Nat} (hp : p < 64) {P : Nat → Prop} (h : ∀ t : Nat, tb a t = true ↔ ∃ q, q < 64 ∧ tb b q = true ∧ P q) (t : Nat) {x : Bool} (hx : x = true ↔ P p) : (tb a t || x) = true ↔ ∃ q, q < 64 ∧ tb (b ||| bit1 p) q = true ∧ P q := by
  rw [Bool.or_eq_true, h t, hx]
  constructor
  · rintro (⟨q, q1, q2, q3⟩ | h3)
    · exact ⟨q, q1, by rw [tb_or, q2]; rfl, q3⟩
    · exact ⟨p, hp, by rw [tb_or, tb_bit1 hp, decide_eq_true rfl, Bool.or_true], h3⟩
  · rintro ⟨q, q1, q2, q3⟩
    rw [tb_or, Bool.or_eq_true, tb_bit1 hp] at q2
    rcases q2 with q2 | q2
    · exact Or.inl ⟨q, q1, q2, q3⟩
    · have := of_decide_eq_true q2
      subst this
      exact Or.inr q3
theorem NI.kid {c : Cv} {nd : Nd} {p : Nat} (h : NI c nd) (hp : p < 64) : NI c (kid c nd p) := by
  refine ⟨fun t => ?_, fun q => ?_⟩
  · show tb (nd.1 ||| c.2.1 p) t = true ↔ ∃ q, q < 64 ∧ tb (nd.2.2 ||| bit1 p) q = true ∧ tb (c.2.1 q) t = true
    rw [tb_or, Bool.or_eq_true, h.1 t]
    constructor
    · rintro (⟨q, q1, q2, q3⟩ | h3)
      · exact ⟨q, q1, by rw [tb_or, q2]; rfl, q3⟩
      · exact ⟨p, hp, by rw [tb_or, tb_bit1 hp, decide_eq_true rfl, Bool.or_true], h3⟩
    · rintro ⟨q, q1, q2, q3⟩
      rw [tb_or, Bool.or_eq_true, tb_bit1 hp] at q2
      rcases q2 with q2 | q2
      · exact Or.inl ⟨q, q1, q2, q3⟩
      · have := of_decide_eq_true q2
        subst this
        exact Or.inr q3
  · show tb (nd.2.1 ||| c.2.2.1 p) q = true ↔ ∃ r, r < 64 ∧ tb (nd.2.2 ||| bit1 p) r = true ∧ tb (c.2.2.1 r) q = true
    rw [tb_or, Bool.or_eq_true, h.2 q]
    constructor
    · rintro (⟨r, q1, q2, q3⟩ | h3)
      · exact ⟨r, q1, by rw [tb_or, q2]; rfl, q3⟩
      · exact ⟨p, hp, by rw [tb_or, tb_bit1 hp, decide_eq_true rfl, Bool.or_true], h3⟩
    · rintro ⟨r, q1, q2, q3⟩
      rw [tb_or, Bool.or_eq_true, tb_bit1 hp] at q2
      rcases q2 with q2 | q2
      · exact Or.inl ⟨r, q1, q2, q3⟩
      · have := of_decide_eq_true q2
        subst this
        exact Or.inr q3
theorem NI.root {c : Cv} : NI c (0, 0, 0) := ⟨fun t => by
  dsimp only
  rw [tb_0]
  exact ⟨fun z => (by cases z), fun ⟨p, _, z, _⟩ => (by rw [tb_0] at z; cases z)⟩, fun q => by
  dsimp only
  rw [tb_0]
  exact ⟨fun z => (by cases z), fun ⟨p, _, z, _⟩ => (by rw [tb_0] at z; cases z)⟩⟩
theorem tb_br {c0 c1 : Nat → Int64} {p q : Nat} : tb (brF c0 c1 p) q = true ↔ ∃ t, t < 64 ∧ tb (c1 p) t = true ∧ tb (c0 t) q = true := by
  unfold brF
  rw [tb_orT]
  constructor
  · rintro ⟨t, ht, h⟩
    by_cases hb : tb (c1 p) t = true
    · rw [if_pos hb] at h; exact ⟨t, ht, hb, h⟩
    · rw [if_neg hb, tb_0] at h; cases h
  · rintro ⟨t, ht, h1, h2⟩
    exact ⟨t, ht, by rw [if_pos h1]; exact h2⟩
theorem and_ne {x y : Int64} : x &&& y ≠ 0 ↔ ∃ i, i < 64 ∧ tb x i = true ∧ tb y i = true := by
  constructor
  · intro h
    obtain ⟨l1, l2, _⟩ := low_tb h
    rw [tb_and, Bool.and_eq_true] at l1
    exact ⟨_, l2, l1⟩
  · rintro ⟨i, _, h1, h2⟩ z
    have : tb (x &&& y) i = true := by rw [tb_and, h1, h2]; rfl
    rw [z, tb_0] at this
    cases this
theorem fp_none {c : Cv} {rec : Nd → Sg → Sg} {nd : Nd} : ∀ {k p : Nat} {s : Sg}, (∀ i, p ≤ i → tb (opn c nd) i = false) → FP c rec nd k p s = s := by
  intro k
  induction k with
  | zero => intro p s _; rfl
  | succ k ih =>
    intro p s h
    simp only [FP]
    rw [show stepP c rec nd p s = s by
      unfold stepP
      rw [h p (Nat.le_refl _), if_neg (show ¬ false = true by decide), ite_self]]
    exact ih (fun i hi => h i (by omega))
section CVR
variable {y0 : OS} {w : Wd}
theorem rs_try {y : OS} {s : Sg} (h : RS y0 w y s) (hs : s.2.2.2 = false) : ∃ v, f_X12_mayTry y = some (b2i (decide (s.1 < 100000)), v) ∧ RS y0 w v (if 100000 ≤ s.1 then spnt s else tri s) := by
  obtain ⟨h1, h2, h3, h4, h5, h6, h7, h8⟩ := h
  unfold f_X12_mayTry
  rw [h6 hs]
  by_cases q : 100000 ≤ s.1
  · have e : s.1 = 100000 := by omega
    rw [if_pos (show nI s.1 = 100000 by rw [e]; rfl), if_pos q, decide_eq_false (by omega)]
    dsimp only [bnd]
    rw [oI_ne _ (by decide), oI_self, if_neg (by decide)]
    refine ⟨_, rfl, Keep.oI (Keep.oI h1 rfl) rfl, ⟨h2.1.cong (by rw [oI_ne _ (by decide), oI_ne _ (by decide)]) (by rw [oI_ne _ (by decide), oI_ne _ (by decide)]) rfl, h2.2⟩, ?_, h4, ?_, fun z => (by unfold spnt at z; cases z), h7, h8⟩
    · rw [oI_ne _ (by decide), oI_ne _ (by decide)]; exact h3
    · rw [oI_ne _ (by decide), oI_self]; rfl
  · rw [if_neg (show ¬ nI s.1 = 100000 from nI_neq (b := 100000) (by omega) (by decide) (by omega)), if_neg q, decide_eq_true (by omega)]
    dsimp only [bnd]
    rw [oI_ne _ (by decide), h5, hs, if_pos b2f]
    refine ⟨_, rfl, Keep.oI h1 rfl, ⟨h2.1.cong (by rw [oI_ne _ (by decide)]) (by rw [oI_ne _ (by decide)]) rfl, h2.2⟩, ?_, h4, ?_, fun _ => ?_, by unfold tri; dsimp only; omega, by unfold tri; dsimp only; omega⟩
    · rw [oI_ne _ (by decide)]; exact h3
    · rw [oI_ne _ (by decide)]; unfold tri; dsimp only; rw [hs]; exact h5.trans (by rw [hs])
    · rw [oI_self, nI_1]; rfl
theorem rs_finds {y : OS} {s : Sg} (h : RS y0 w y (tri s)) (h0 : s.2.1 ≤ s.1) (t : Int64) : ∃ v, f_X12_finds y t = some v ∧ RS y0 w v (fnd s t) := by
  obtain ⟨h1, h2, h3, h4, h5, h6, h7, h8⟩ := h
  have h3 : y.1 22 = nI s.2.1 := h3
  have h4 : y.2.1 24 = if s.2.1 = 0 then -1 else s.2.2.1 := h4
  have h7 : s.2.1 ≤ s.1 + 1 := h7
  have h8 : s.1 + 1 ≤ 100000 := h8
  unfold f_X12_finds
  rw [h3]
  by_cases q : s.2.1 = 0
  · rw [if_pos ((nI0 (by omega)).mpr q)]
    dsimp only [bnd]
    rw [oJ_1, h3, nI_1]
    refine ⟨_, rfl, Keep.oI (Keep.oJ h1) rfl, ⟨h2.1.cong (by rw [oI_ne _ (by decide), oJ_1]) (by rw [oI_ne _ (by decide), oJ_1]) rfl, h2.2⟩, ?_, ?_, ?_, fun z => ?_, ?_, ?_⟩
    · rw [oI_self]; rfl
    · rw [oI_2, oJ_self]
      unfold fnd
      dsimp only
      rw [if_neg (by omega), if_pos q]
    · rw [oI_ne _ (by decide), oJ_1]; exact h5
    · rw [oI_ne _ (by decide), oJ_1]; exact h6 z
    · unfold fnd; dsimp only; omega
    · unfold fnd; dsimp only; omega
  · rw [if_neg (nI_ne0 (by omega) (by omega))]
    dsimp only [bnd]
    rw [nI_1]
    refine ⟨_, rfl, Keep.oI h1 rfl, ⟨h2.1.cong (by rw [oI_ne _ (by decide)]) (by rw [oI_ne _ (by decide)]) rfl, h2.2⟩, ?_, ?_, ?_, fun z => ?_, ?_, ?_⟩
    · rw [oI_self]; rfl
    · rw [oI_2, h4]
      unfold fnd
      dsimp only
      rw [if_neg q, if_neg (by omega), if_neg q]
    · rw [oI_ne _ (by decide)]; exact h5
    · rw [oI_ne _ (by decide)]; exact h6 z
    · unfold fnd; dsimp only; omega
    · unfold fnd; dsimp only; omega
/-- the first line that a set misses -/
theorem ov_first {y : OS} (hy : RWo y w.1 w.2) (rec : OS → Int64 → Int32 → Option OS) (set : Int64) (one : Int32) {l : Nat} (hl : l ≤ w.2.length) (h1 : ∀ j, j < l → wl w.2 j &&& set ≠ 0) (h2 : l < w.2.length → wl w.2 l &&& set = 0) : lpv (f_X12_ovoidsFrom_3 rec y set one) 0 = some (nI l) := by
  have hm := hy.2.2.2.1
  refine lpv_for (f := f_X12_ovoidsFrom_3 rec y set one) (fun i => nI i) l (fun i hi => ?_) ?_ 0 (Nat.zero_le _)
  · unfold f_X12_ovoidsFrom_3
    simp only [lg_cmp_eq]
    rw [hy.2.1, if_neg (nI_ge (show i < w.2.length by omega) (by omega)), if_pos (inb_t (by omega) (by omega)), nI_clamp (by omega), hy.2.2.2.2 i (by omega), if_neg (h1 i hi)]
    simp only [bnd, nI_1]
  · unfold f_X12_ovoidsFrom_3
    simp only [lg_cmp_eq]
    rcases Nat.lt_or_ge l w.2.length with q | q
    · rw [hy.2.1, if_neg (nI_ge q (by omega)), if_pos (inb_t (by omega) (by omega)), nI_clamp (by omega), hy.2.2.2.2 l q, if_pos (h2 q)]
    · rw [hy.2.1, if_pos (nI_le q (by omega))]
theorem ov_hit (hW : WFw w) (hn : w.1 ≤ 64) (hm : w.2.length ≤ 64) {o : Bool} {nd : Nd} (h : NI (cvO w o) nd) {t : Nat} (ht : t < w.2.length) : tb nd.1 t = true ↔ wl w.2 t &&& nd.2.2 ≠ 0 := by
  rw [h.1 t, and_ne]
  constructor
  · rintro ⟨p, p1, p2, p3⟩
    have p3 : tb (thrF w.2 p) t = true := p3
    exact ⟨p, p1, ((tb_thr hm).mp p3).2, p2⟩
  · rintro ⟨p, p1, p2, p3⟩
    exact ⟨p, p1, p3, (tb_thr hm).mpr ⟨ht, p2⟩⟩
theorem ov_opn (hW : WFw w) (hn : w.1 ≤ 64) (hm : w.2.length ≤ 64) {o : Bool} {nd : Nd} (h : NI (cvO w o) nd) {l : Nat} (hl : l < w.2.length) (hu : unh nd.1 = l) (hz : wl w.2 l &&& nd.2.2 = 0) (p : Nat) : tb (opn (cvO w o) nd) p = true ↔ tb (wl w.2 l) p = true ∧ nearF w.2 p &&& nd.2.2 = 0 := by
  unfold opn
  rw [tb_dif, Bool.and_eq_true, hu]
  show tb (wl w.2 l) p = true ∧ _ ↔ _
  constructor
  · rintro ⟨h1, h2⟩
    refine ⟨h1, ?_⟩
    false_or_by_contra
    rename_i h3
    obtain ⟨q, q1, q2, q3⟩ := and_ne.mp h3
    obtain ⟨_, j, j1, j2, j3⟩ := (tb_near (tb_lt h1)).mp q2
    have : tb nd.2.1 p = true := (h.2 p).mpr ⟨q, q1, q3, tb_br.mpr ⟨j, by omega, (tb_thr hm).mpr ⟨j1, j3⟩, j2⟩⟩
    rw [this] at h2
    cases h2
  · rintro ⟨h1, h2⟩
    refine ⟨h1, ?_⟩
    have hbb : tb nd.2.1 p = false := by
      refine eq_false_of_ne_true (fun z => ?_)
      obtain ⟨q, q1, q2, q3⟩ := (h.2 p).mp z
      obtain ⟨j, j1, j2, j3⟩ := tb_br.mp q3
      have j4 := (tb_thr hm).mp j2
      by_cases e : q = p
      · exact absurd hz (and_ne.mpr ⟨p, tb_lt h1, h1, by rw [← e]; exact q2⟩)
      · exact absurd h2 (and_ne.mpr ⟨q, q1, (tb_near (tb_lt h1)).mpr ⟨e, j, j4.1, j3, j4.2⟩, q2⟩)
    rw [hbb]
    rfl
theorem ref_O (hW : WFw w) (hn : w.1 ≤ 64) (hm : w.2.length ≤ 64) {o : Bool} {one : Int32} (ho : one = 0 ↔ o = false) : ∀ (f n : Nat) (nd : Nd) (s : Sg) (y : OS), f < n → 64 ≤ f + pcn nd.1 → NI (cvO w o) nd → ndok (cvO w o) nd 0 → RS y0 w y s → ∃ v, f_X12_ovoidsFrom n y nd.2.2 one = some v ∧ RS y0 w v (Rs (cvO w o) f nd s) := by
  intro f
  induction f with
  | zero =>
    intro n nd s y _ hf _ hN _
    obtain ⟨_, h2, h3⟩ := hN.fr
    exfalso
    have : pcn nd.1 < pcn (-1 : Int64) := pcn_strict (fun i hi => tb_m1 i (tb_lt hi)) (fun z => by
      have h9 := tb_m1 (unh nd.1) h2
      rw [← z, h3] at h9
      cases h9)
    have := pcn_le (-1 : Int64)
    omega
  | succ f ih =>
    intro n nd s y hfn hf hI hN hS
    obtain ⟨n, rfl⟩ : ∃ k, n = k + 1 := ⟨n - 1, by omega⟩
    obtain ⟨u1, u2, u3⟩ := hN.fr
    have hlo := (low_tb u1).2.2
    have hgoal : (cvO w o).2.2.2.1 = fst64 w.2.length := rfl
    have hl : unh nd.1 < w.2.length := by
      false_or_by_contra
      rename_i hc
      refine hN.2.1 (tb_ext (fun i _ => ?_))
      rw [hgoal, tb_fst64 hm]
      by_cases q : i < w.2.length
      · rw [decide_eq_true q]
        have h9 := hlo i (by unfold unh at hc; omega)
        rw [tb_not (by omega)] at h9
        cases hb : tb nd.1 i with
        | true => rfl
        | false => rw [hb] at h9; cases h9
      · rw [decide_eq_false q]
        refine eq_false_of_ne_true (fun z => q ?_)
        have := hN.1 i z
        rw [hgoal, tb_fst64 hm] at this
        exact of_decide_eq_true this
    have hz : wl w.2 (unh nd.1) &&& nd.2.2 = 0 := by
      false_or_by_contra
      rename_i hc
      rw [(ov_hit hW hn hm hI hl).mpr hc] at u3
      cases u3
    have hfirst := ov_first (y := y) hS.2.1.1 (f_X12_ovoidsFrom n) nd.2.2 one (Nat.le_of_lt hl) (fun j hj => (ov_hit hW hn hm hI (by omega)).mp (by
      have h9 := hlo j (by unfold unh at hj; exact hj)
      rw [tb_not (by omega)] at h9
      cases hb : tb nd.1 j with
      | true => rfl
      | false => rw [hb] at h9; cases h9)) (fun _ => hz)
    have hopn := ov_opn hW hn hm hI hl rfl hz
    have P : ∀ k p, p + k = 64 → ∀ (s : Sg) (y : OS), RS y0 w y s → ∃ v, lpv (f_X12_ovoidsFrom_50 (f_X12_ovoidsFrom n) nd.2.2 one (nI (unh nd.1))) (y, nI p) = some v ∧ RS y0 w v (FP (cvO w o) (Rs (cvO w o) f) nd k p s) := by
      intro k
      induction k with
      | zero =>
        intro p hp s y hS
        refine ⟨y, lpv_out ?_, hS⟩
        unfold f_X12_ovoidsFrom_50
        dsimp only
        rw [hS.2.1.1.1, if_pos (nI_le (by omega) (by omega))]
      | succ k ihk =>
        intro p hp s y hS
        obtain ⟨s1, s2, s3, s4, s5, s6, s7, s8⟩ := hS
        have hS : RS y0 w y s := ⟨s1, s2, s3, s4, s5, s6, s7, s8⟩
        rcases Nat.lt_or_ge p w.1 with hpn | hpn
        · cases hst : stp (cvO w o) s with
          | true =>
            rw [fp_stop hst]
            refine ⟨y, lpv_out ?_, hS⟩
            unfold f_X12_ovoidsFrom_50
            dsimp only
            rw [s2.1.1, if_neg (nI_ge hpn (by omega)), s5]
            cases hsp : s.2.2.2 with
            | true => rw [if_neg b2t]
            | false =>
              unfold stp at hst
              rw [hsp, Bool.false_or, Bool.and_eq_true] at hst
              have h9 : o = true := hst.1
              have h10 := of_decide_eq_true hst.2
              rw [if_pos b2f, if_neg (fun z => by rw [ho.mp z] at h9; cases h9), s3, if_pos (show (0 : Int32) < nI s.2.1 from nI_lt (a := 0) h10 (by omega))]
          | false =>
            have hsp : s.2.2.2 = false := by
              unfold stp at hst
              rw [Bool.or_eq_false_iff] at hst
              exact hst.1
            have hloop : f_X12_ovoidsFrom_50 (f_X12_ovoidsFrom n) nd.2.2 one (nI (unh nd.1)) (y, nI p) = if tb (wl w.2 (unh nd.1)) p = true ∧ nearF w.2 p &&& nd.2.2 = 0 then (f_X12_mayTry y).bind (fun x24 => match x24 with | (v26, t27) => (if v26 = 0 then some (.inl ((t27, nI (p + 1)))) else (f_X12_ovoidsFrom n t27 (nd.2.2 ||| bit1 p) one).bind (fun x34 => some (.inl ((x34, nI (p + 1))))))) else some (.inl (y, nI (p + 1))) := by
              unfold f_X12_ovoidsFrom_50
              dsimp only
              rw [s2.1.1, if_neg (nI_ge hpn (by omega)), s5, hsp, if_pos b2f, if_pos (inb_t u2 (by omega)), nI_clamp (by omega), nI_clamp (by omega), s2.1.2.2.2.2 _ hl, has_12 (by omega), ob_s, if_pos (inb_t (by omega) (by omega)), s2.2 p hpn, bit_12 (by omega)]
              simp only [lg_cmp_eq, bnd, nI_1, ob_s]
              have same : ∀ (X : Option ((OS × Int32) ⊕ OS)), (if one = 0 then X else if 0 < y.1 22 then some (.inr y) else X) = X := fun X => by
                by_cases z : one = 0
                · rw [if_pos z]
                · rw [if_neg z, s3]
                  unfold stp at hst
                  rw [hsp, Bool.false_or, Bool.and_eq_false_iff] at hst
                  have h9 : ¬ (0 : Int32) < nI s.2.1 := by
                    rcases hst with h | h
                    · exact absurd (ho.mpr h) z
                    · have := of_decide_eq_false h
                      rw [show s.2.1 = 0 by omega]
                      decide
                  rw [if_neg h9]
              rw [same]
              cases hb : tb (wl w.2 (unh nd.1)) p with
              | false => rw [if_pos b2f, if_neg (fun z => by cases z.1)]
              | true =>
                rw [if_neg b2t]
                by_cases hc : nearF w.2 p &&& nd.2.2 = 0
                · rw [if_pos hc, if_pos ⟨rfl, hc⟩]
                · rw [if_neg hc, if_neg (fun z => hc z.2)]
            simp only [FP]
            by_cases hop : tb (opn (cvO w o) nd) p = true
            · rw [if_pos ((hopn p).mp hop)] at hloop
              obtain ⟨v, e1, e2⟩ := rs_try hS hsp
              rw [e1, ob_s] at hloop
              dsimp only at hloop
              by_cases q : 100000 ≤ s.1
              · rw [if_pos q] at e2
                rw [decide_eq_false (by omega), if_pos b2f] at hloop
                rw [show stepP (cvO w o) (Rs (cvO w o) f) nd p s = spnt s by unfold stepP; rw [hst, if_neg (by decide), if_pos hop, if_pos q], lpv_in hloop]
                exact ihk (p + 1) (by omega) _ v e2
              · rw [if_neg q] at e2
                rw [decide_eq_true (by omega), if_neg b2t] at hloop
                by_cases g : (kid (cvO w o) nd p).1 = (cvO w o).2.2.2.1
                · rw [show stepP (cvO w o) (Rs (cvO w o) f) nd p s = fnd s (kid (cvO w o) nd p).2.2 by unfold stepP; rw [hst, if_neg (by decide), if_pos hop, if_neg q, if_pos g]]
                  obtain ⟨n', rfl⟩ : ∃ k, n = k + 1 := ⟨n - 1, by omega⟩
                  have hK := hI.kid (p := p) (by omega)
                  have hall := ov_first (y := v) e2.2.1.1 (f_X12_ovoidsFrom n') (nd.2.2 ||| bit1 p) one (Nat.le_refl _) (fun j hj => (ov_hit hW hn hm hK hj).mp (by
                    rw [g, hgoal, tb_fst64 hm]
                    exact decide_eq_true hj)) (fun z => by omega)
                  obtain ⟨v2, f1, f2⟩ := rs_finds e2 s7 (kid (cvO w o) nd p).2.2
                  have hleaf : f_X12_ovoidsFrom (n' + 1) v (nd.2.2 ||| bit1 p) one = some v2 := by
                    show f_X12_ovoidsFrom_T (f_X12_ovoidsFrom n') v (nd.2.2 ||| bit1 p) one = _
                    unfold f_X12_ovoidsFrom_T
                    rw [hall, ob_s, e2.2.1.1.2.1, if_pos rfl]
                    rw [show f_X12_finds v (nd.2.2 ||| bit1 p) = some v2 from f1, ob_s]
                  rw [hleaf, ob_s] at hloop
                  rw [lpv_in hloop]
                  exact ihk (p + 1) (by omega) _ v2 f2
                · rw [show stepP (cvO w o) (Rs (cvO w o) f) nd p s = Rs (cvO w o) f (kid (cvO w o) nd p) (tri s) by unfold stepP; rw [hst, if_neg (by decide), if_pos hop, if_neg q, if_neg g]]
                  have hK := (ndok.nx (d := pcn nd.1) (gc_O hW hn hm o) ⟨hN.1, hN.2.1, Nat.le_refl _⟩ hop g)
                  obtain ⟨v2, f1, f2⟩ := ih n (kid (cvO w o) nd p) (tri s) v (by omega) (by have := hK.2.2; omega) (hI.kid (by omega)) ⟨hK.1, hK.2.1, Nat.zero_le _⟩ e2
                  have f1 : f_X12_ovoidsFrom n v (nd.2.2 ||| bit1 p) one = some v2 := f1
                  rw [f1, ob_s] at hloop
                  rw [lpv_in hloop]
                  exact ihk (p + 1) (by omega) _ v2 f2
            · rw [if_neg (fun z => hop ((hopn p).mpr z))] at hloop
              rw [show stepP (cvO w o) (Rs (cvO w o) f) nd p s = s by unfold stepP; rw [if_neg hop, ite_self], lpv_in hloop]
              exact ihk (p + 1) (by omega) s y hS
        · rw [fp_none (fun i hi => eq_false_of_ne_true (fun z => by
            have := hW.pt hn hl ((hopn i).mp z).1
            omega))]
          refine ⟨y, lpv_out ?_, hS⟩
          unfold f_X12_ovoidsFrom_50
          dsimp only
          rw [s2.1.1, if_pos (nI_le (by omega) (by omega))]
    obtain ⟨v, e1, e2⟩ := P 64 0 rfl s y hS
    refine ⟨v, ?_, e2⟩
    show f_X12_ovoidsFrom_T (f_X12_ovoidsFrom n) y nd.2.2 one = _
    unfold f_X12_ovoidsFrom_T
    rw [hfirst, ob_s, hS.2.1.1.2.1, if_neg (nI_neq (by omega) (by omega) (by omega)), show ((y, (0 : Int32)) : OS × Int32) = (y, nI 0) from rfl, e1, ob_s]
end CVR
