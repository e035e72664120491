/-! questions: cap -/
theorem al_le (N : Nat → Int64) (S : Int64) : al N S ≤ pcn S := by
  obtain ⟨⟨I, h1, h2, h3⟩, _⟩ := al_s N S
  have : pcn I ≤ pcn S := pcn_mono h2
  omega
theorem al_0 (N : Nat → Int64) : al N 0 = 0 := by
  have := al_le N 0
  rw [pcn_zero] at this
  omega
theorem nb_near (l : List Int64) : NB (nearF l) := ⟨fun p q hp h => near_sym hp (tb_lt h) h, fun p => by
  refine eq_false_of_ne_true (fun z => ?_)
  exact ((tb_near (tb_lt z)).mp z).1 rfl⟩
theorem dl_lt {S : Int64} {p : Nat} (h : tb S p = true) : pcn (dl S p) < pcn S := by have := pcn_del1 h; omega
theorem fr_lt {N : Nat → Int64} {S : Int64} {p : Nat} (h : tb S p = true) : pcn (fr N S p) < pcn S := by
  have h1 := dl_lt h
  have : pcn (fr N S p) ≤ pcn (dl S p) := pcn_mono (fun i hi => by unfold fr at hi; rw [tb_dif, Bool.and_eq_true] at hi; exact hi.1)
  omega
theorem fr_sb {N : Nat → Int64} {S : Int64} {p i : Nat} (hp : p < 64) (h : tb (fr N S p) i = true) : tb S i = true := ((tb_fr hp).mp h).1.1
theorem dl_sb {S : Int64} {p i : Nat} (hp : p < 64) (h : tb (dl S p) i = true) : tb S i = true := ((tb_dl hp).mp h).1
theorem m1n {n : Nat} (h : n < 2 ^ 31) : ¬ nI n ≤ (-1 : Int32) := fun z => Int32.lt_irrefl (Int32.lt_of_lt_of_le (Int32.lt_of_lt_of_le (show (-1 : Int32) < 0 by decide) (nI_pos' h)) z)
theorem le27 {d : Nat} (h : d ≤ 27) : nI d ≤ (27 : Int32) := nI_le (b := 27) h (by decide)
theorem nlt27 {d : Nat} (h : d ≤ 27) : ¬ (27 : Int32) < nI d := nI_nlt (a := 27) h (by decide)
section CAP
variable {stn : OS} {w : Wd}
theorem loose_6 (hw : CW stn w) {S : Int64} (h0 : S ≠ 0) (hS : ∀ i, tb S i = true → i < w.1) : ∃ p, f_X6_loosestOrBusiest stn S = some (nI p) ∧ tb S p = true ∧ (pcn (S &&& nearF w.2 p) ≤ 1 ∨ ∀ q, tb S q = true → 2 ≤ pcn (S &&& nearF w.2 q) ∧ pcn (S &&& nearF w.2 q) ≤ pcn (S &&& nearF w.2 p)) := by
  have hn := hw.1.2.2.1
  obtain ⟨l1, l2, _⟩ := low_tb h0
  have key := lpv_inv (f := f_X6_loosestOrBusiest_11 stn S) (fun i z => z.2.2 = nI i ∧ (∀ q, q < i → tb S q = true → 2 ≤ pcn (S &&& nearF w.2 q)) ∧ ((z.2.1 = -1 ∧ ∀ q, q < i → tb S q = false) ∨ ∃ p, tb S p = true ∧ z.1 = nI p ∧ z.2.1 = nI (pcn (S &&& nearF w.2 p)) ∧ ∀ q, q < i → tb S q = true → pcn (S &&& nearF w.2 q) ≤ pcn (S &&& nearF w.2 p))) w.1 (fun r => (r.1 = 0 ∧ ∃ p, r.2.2 = nI p ∧ tb S p = true ∧ pcn (S &&& nearF w.2 p) ≤ 1) ∨ (r.1 = 1 ∧ ∃ p, r.2.1 = nI p ∧ tb S p = true ∧ ∀ q, tb S q = true → 2 ≤ pcn (S &&& nearF w.2 q) ∧ pcn (S &&& nearF w.2 q) ≤ pcn (S &&& nearF w.2 p))) (fun i z hi hI => ?_) (fun z hI => ?_) 0 (nI (low S), -1, 0) (Nat.zero_le _) ⟨rfl, fun q hq => by omega, Or.inl ⟨rfl, fun q hq => by omega⟩⟩
  · obtain ⟨⟨k, b3, b5⟩, e, h⟩ := key
    have hst : f_X6_loosestOrBusiest stn S = if k = 0 then some b5 else some b3 := by
      unfold f_X6_loosestOrBusiest
      rw [lowest_10, ob_s, if_neg h0, e, ob_s]
    rcases h with ⟨k0, p, e1, e2, e3⟩ | ⟨k1, p, e1, e2, e3⟩
    · dsimp only at k0 e1
      exact ⟨p, by rw [hst, if_pos k0, e1], e2, Or.inl e3⟩
    · dsimp only at k1 e1
      exact ⟨p, by rw [hst, if_neg (by omega), e1], e2, Or.inr e3⟩
  · obtain ⟨b3, b4, b5⟩ := z
    obtain ⟨e1, e2, e3⟩ := hI
    dsimp only at e1 e2 e3
    subst e1
    have hpc := pcn_le (S &&& nearF w.2 i)
    have hst : f_X6_loosestOrBusiest_11 stn S (b3, b4, nI i) = if tb S i = true then (if 1 < pcn (S &&& nearF w.2 i) then (if nI (pcn (S &&& nearF w.2 i)) ≤ b4 then some (.inl (b3, b4, nI (i + 1))) else some (.inl (nI i, nI (pcn (S &&& nearF w.2 i)), nI (i + 1)))) else some (.inr (0, b3, nI i))) else some (.inl (b3, b4, nI (i + 1))) := by
      unfold f_X6_loosestOrBusiest_11
      dsimp only
      rw [hw.1.1, if_neg (nI_ge hi (by omega)), has_10 (by omega), ob_s, nearAt_10 hw hi]
      cases hb : tb S i with
      | false =>
        rw [if_pos b2f, if_neg (by decide)]
        simp only [bnd, nI_1]
      | true =>
        rw [if_neg b2t, if_pos rfl, ob_s, bitCount_13, ob_s]
        simp only [bnd, nI_1]
        by_cases c : 1 < pcn (S &&& nearF w.2 i)
        · rw [if_pos c, if_pos (show (1 : Int32) < nI _ from nI_lt (a := 1) c (by omega))]
        · rw [if_neg c, if_neg (show ¬ (1 : Int32) < nI _ from nI_nlt (a := 1) (by omega) (by decide))]
    by_cases hb : tb S i = true
    · rw [if_pos hb] at hst
      by_cases c : 1 < pcn (S &&& nearF w.2 i)
      · rw [if_pos c] at hst
        left
        have h2 : ∀ q, q < i + 1 → tb S q = true → 2 ≤ pcn (S &&& nearF w.2 q) := fun q hq hs => by
          rcases Nat.lt_or_ge q i with g | g
          · exact e2 q g hs
          · rw [show q = i by omega]; exact c
        rcases e3 with ⟨f1, f2⟩ | ⟨p, f1, f2, f3, f4⟩
        · rw [f1, if_neg (m1n (by omega))] at hst
          rw [f1]
          exact ⟨_, hst, rfl, h2, Or.inr ⟨i, hb, rfl, rfl, fun q hq hs => by
            rcases Nat.lt_or_ge q i with g | g
            · rw [f2 q g] at hs; cases hs
            · rw [show q = i by omega]; exact Nat.le_refl _⟩⟩
        · have hpc2 := pcn_le (S &&& nearF w.2 p)
          rw [f3] at hst ⊢
          by_cases g : pcn (S &&& nearF w.2 i) ≤ pcn (S &&& nearF w.2 p)
          · rw [if_pos (nI_le g (by omega))] at hst
            exact ⟨_, hst, rfl, h2, Or.inr ⟨p, f1, f2, rfl, fun q hq hs => by
              rcases Nat.lt_or_ge q i with g2 | g2
              · exact f4 q g2 hs
              · rw [show q = i by omega]; exact g⟩⟩
          · rw [if_neg (nI_ge (by omega) (by omega))] at hst
            exact ⟨_, hst, rfl, h2, Or.inr ⟨i, hb, rfl, rfl, fun q hq hs => by
              rcases Nat.lt_or_ge q i with g2 | g2
              · have := f4 q g2 hs
                omega
              · rw [show q = i by omega]; exact Nat.le_refl _⟩⟩
      · rw [if_neg c] at hst
        right
        exact ⟨_, hst, Or.inl ⟨rfl, i, rfl, hb, by omega⟩⟩
    · rw [if_neg hb] at hst
      left
      have hb2 := eq_false_of_ne_true hb
      refine ⟨_, hst, rfl, fun q hq hs => ?_, ?_⟩
      · rcases Nat.lt_or_ge q i with g | g
        · exact e2 q g hs
        · rw [show q = i by omega, hb2] at hs; cases hs
      · rcases e3 with ⟨f1, f2⟩ | ⟨p, f1, f2, f3, f4⟩
        · exact Or.inl ⟨f1, fun q hq => by
            rcases Nat.lt_or_ge q i with g | g
            · exact f2 q g
            · rw [show q = i by omega]; exact hb2⟩
        · exact Or.inr ⟨p, f1, f2, f3, fun q hq hs => by
            rcases Nat.lt_or_ge q i with g | g
            · exact f4 q g hs
            · rw [show q = i by omega, hb2] at hs; cases hs⟩
  · obtain ⟨b3, b4, b5⟩ := z
    obtain ⟨e1, e2, e3⟩ := hI
    dsimp only at e1 e2 e3
    subst e1
    refine ⟨(1, b3, nI w.1), ?_, Or.inr ⟨rfl, ?_⟩⟩
    · unfold f_X6_loosestOrBusiest_11
      dsimp only
      rw [hw.1.1, if_pos (nI_le (Nat.le_refl _) (by omega))]
    · rcases e3 with ⟨f1, f2⟩ | ⟨p, f1, f2, f3, f4⟩
      · have := f2 _ (hS _ l1)
        rw [l1] at this
        cases this
      · exact ⟨p, f2, f1, fun q hs => ⟨e2 q (hS q hs) hs, f4 q (hS q hs) hs⟩⟩
theorem most_6 (hw : CW stn w) : ∀ (n : Nat) (S : Int64) (d : Nat), pcn S < n → pcn S + d ≤ 27 → (∀ i, tb S i = true → i < w.1) → f_X6_mostUnjoined n stn S (nI d) = some (nI (al (nearF w.2) S)) := by
  intro n
  induction n with
  | zero => intro S d h; omega
  | succ n ih =>
    intro S d hn hd hS
    have hN := nb_near w.2
    have hw64 := hw.1.2.2.1
    have key := lpv_inv (f := f_X6_mostUnjoined_17 (f_X6_mostUnjoined n) stn (nI d)) (fun t z => z.2.2 = nI t ∧ sb z.1 S ∧ pcn z.1 + t ≤ 27 ∧ ∃ s, z.2.1 = nI s ∧ s + al (nearF w.2) z.1 = al (nearF w.2) S) 28 (fun r => (r.1 = 1 ∧ r.2.1 = nI (al (nearF w.2) S)) ∨ (r.1 = 0 ∧ ∃ R p s, tb R p = true ∧ sb R S ∧ r.2.1 = nI s ∧ s + al (nearF w.2) R = al (nearF w.2) S ∧ r.2.2.1 = dl R p ∧ r.2.2.2 = fr (nearF w.2) R p)) (fun t z ht hI => ?_) (fun z hI => by obtain ⟨_, _, h, _⟩ := hI; omega) 0 (S, 0, 0) (Nat.zero_le _) ⟨rfl, fun i hi => hi, by dsimp only; omega, 0, rfl, Nat.zero_add _⟩
    · obtain ⟨⟨k, b6, v7, v12⟩, e, h⟩ := key
      have hst : f_X6_mostUnjoined (n + 1) stn S (nI d) = if k = 0 then (f_X6_mostUnjoined n stn v12 (nI d + 1)).bind (fun x31 => bnd ((1 : Int32) + x31 : Int32) (fun v34 => (f_X6_mostUnjoined n stn v7 (nI d + 1)).bind (fun x36 => (f_J9_max_7cf53 v34 x36).bind (fun x39 => some (b6 + x39))))) else some b6 := by
        show f_X6_mostUnjoined_T (f_X6_mostUnjoined n) stn S (nI d) = _
        unfold f_X6_mostUnjoined_T
        rw [if_pos (le27 (show d ≤ 27 by omega)), e, ob_s]
      rw [hst]
      rcases h with ⟨k1, h⟩ | ⟨k0, R, p, s, h1, h2, h3, h4, h5, h6⟩
      · dsimp only at k1 h
        rw [if_neg (by omega), h]
      · dsimp only at k0 h3 h5 h6
        have hp64 := tb_lt h1
        have hRS : pcn R ≤ pcn S := pcn_mono h2
        have g1 := fr_lt (N := nearF w.2) h1
        have g2 := dl_lt h1
        have hb := al_br hN h1
        have hle := al_le (nearF w.2) S
        have hp64' := pcn_le S
        rw [if_pos k0, h3, h5, h6, nI_1, ih _ (d + 1) (by omega) (by omega) (fun i hi => hS i (h2 i (fr_sb hp64 hi))), ob_s]
        have ha : (1 : Int32) + nI (al (nearF w.2) (fr (nearF w.2) R p)) = nI (1 + al (nearF w.2) (fr (nearF w.2) R p)) := by rw [show (1 : Int32) = nI 1 from rfl, nI_add]
        have b1 := al_le (nearF w.2) (fr (nearF w.2) R p)
        have b2 := al_le (nearF w.2) (dl R p)
        dsimp only [bnd]
        rw [ha, ih _ (d + 1) (by omega) (by omega) (fun i hi => hS i (h2 i (dl_sb hp64 hi))), ob_s, max_J9, ob_s, mx_nI (by omega) (by omega), ← hb, nI_add, h4]
    · obtain ⟨R, b6, b7⟩ := z
      obtain ⟨e1, e2, e3, s, e4, e5⟩ := hI
      dsimp only at e1 e2 e3 e4 e5
      subst e1 e4
      have hle := al_le (nearF w.2) S
      have hS64 := pcn_le S
      by_cases hz : R = 0
      · right
        refine ⟨(1, nI s, 0, 0), ?_, Or.inl ⟨rfl, ?_⟩⟩
        · unfold f_X6_mostUnjoined_17
          dsimp only
          simp only [lg_cmp_eq]
          rw [if_neg (nlt27 (show t ≤ 27 by omega)), if_pos hz]
        · dsimp only
          rw [hz, al_0, Nat.add_zero] at e5
          rw [← e5]
      · obtain ⟨p, p1, p2, p3⟩ := loose_6 hw hz (fun i hi => hS i (e2 i hi))
        have hp64 := tb_lt p2
        have hpn := hS p (e2 p p2)
        have hpc := pcn_le (R &&& nearF w.2 p)
        have hst : f_X6_mostUnjoined_17 (f_X6_mostUnjoined n) stn (nI d) (R, nI s, nI t) = if pcn (R &&& nearF w.2 p) ≤ 2 then some (.inl (fr (nearF w.2) R p, nI (s + 1), nI (t + 1))) else some (.inr (0, nI s, dl R p, fr (nearF w.2) R p)) := by
          unfold f_X6_mostUnjoined_17
          dsimp only
          simp only [lg_cmp_eq]
          rw [if_neg (nlt27 (show t ≤ 27 by omega)), if_neg hz, p1, ob_s, sh1 hp64, nearAt_10 hw hpn]
          simp only [bnd, ob_s, bitCount_13, nI_1]
          unfold fr dl
          generalize pcn (R &&& nearF w.2 p) = g at hpc ⊢
          by_cases c : g ≤ 2
          · rw [if_pos c, if_pos (show nI _ ≤ (2 : Int32) from nI_le (b := 2) c (by decide))]
          · rw [if_neg c, if_neg (show ¬ nI _ ≤ (2 : Int32) from nI_ge (a := 2) (by omega) (by omega))]
        by_cases c : pcn (R &&& nearF w.2 p) ≤ 2
        · left
          rw [if_pos c] at hst
          have g1 := fr_lt (N := nearF w.2) p2
          have hal : al (nearF w.2) R = 1 + al (nearF w.2) (fr (nearF w.2) R p) := by
            rcases p3 with p3 | p3
            · exact al_loose hN p2 p3
            · exact al_ring hN p2 (fun q hq => by have := p3 q hq; omega)
          exact ⟨_, hst, rfl, fun i hi => e2 i (fr_sb hp64 hi), by dsimp only; omega, s + 1, rfl, by dsimp only; omega⟩
        · right
          rw [if_neg c] at hst
          exact ⟨_, hst, Or.inr ⟨rfl, R, p, s, p2, e2, rfl, e5, rfl, rfl⟩⟩
theorem apart_12 {y : OS} (hy : RN y w) : ∀ (n : Nat) (S : Int64), pcn S < n → (∀ i, tb S i = true → i < w.1) → f_X12_mostApart n y S = some (nI (al (nearF w.2) S)) := by
  intro n
  induction n with
  | zero => intro S h; omega
  | succ n ih =>
    intro S hn hS
    have hN := nb_near w.2
    have hw64 := hy.1.2.2.1
    have hdeg : ∀ q, pcn (nearF w.2 q &&& S) = pcn (S &&& nearF w.2 q) := fun q => by rw [Int64.and_comm]
    by_cases hz : S = 0
    · subst hz
      show f_X12_mostApart_T (f_X12_mostApart n) y 0 = _
      unfold f_X12_mostApart_T
      rw [if_pos ((lg_cmp_eq 0 0).mpr rfl), al_0]
      rfl
    · obtain ⟨l1, l2, _⟩ := low_tb hz
      have key := lpv_inv (f := f_X12_mostApart_22 (f_X12_mostApart n) y S) (fun i z => z.2.2.2.2 = nI i ∧ ((z.1 = -1 ∧ z.2.2.1 = 0 ∧ z.2.2.2.1 = 0 ∧ ∀ q, q < i → tb S q = false) ∨ ∃ p c mx, tb S p = true ∧ z.1 = nI (pcn (S &&& nearF w.2 p)) ∧ z.2.1 = nI p ∧ (∀ q, q < i → tb S q = true → pcn (S &&& nearF w.2 p) ≤ pcn (S &&& nearF w.2 q)) ∧ z.2.2.1 = nI mx ∧ mx ≤ 64 ∧ z.2.2.2.1 = nI c ∧ pcn (S &&& nearF w.2 p) ≤ mx ∧ (0 < mx → tb S c = true))) w.1 (fun r => ∃ p c, tb S p = true ∧ r.1 = nI (pcn (S &&& nearF w.2 p)) ∧ r.2.1 = nI p ∧ r.2.2 = nI c ∧ (1 < pcn (S &&& nearF w.2 p) → tb S c = true)) (fun i z hi hI => Or.inl ?_) (fun z hI => ?_) 0 (-1, 0, 0, 0, 0) (Nat.zero_le _) ⟨rfl, Or.inl ⟨rfl, rfl, rfl, fun q hq => by omega⟩⟩
      · obtain ⟨⟨r1, r2, r3⟩, e, p, c, h1, h2, h3, h4, h5⟩ := key
        dsimp only at h2 h3 h4
        subst h2 h3 h4
        have hp64 := tb_lt h1
        have hpn := hS p h1
        have hpc := pcn_le (S &&& nearF w.2 p)
        have hfr : ∀ q, (S &&& (nearF w.2 q ^^^ (-1))) &&& (bit1 q ^^^ (-1)) = fr (nearF w.2) S q := fun q => tb_ext (fun i _ => by
          unfold fr dl
          simp only [tb_and]
          cases tb S i <;> cases tb (nearF w.2 q ^^^ (-1)) i <;> cases tb (bit1 q ^^^ (-1)) i <;> rfl)
        show f_X12_mostApart_T (f_X12_mostApart n) y S = _
        unfold f_X12_mostApart_T
        rw [if_neg (fun q => hz ((lg_cmp_eq _ _).mp q)), e, ob_s]
        dsimp only
        by_cases c1 : 1 < pcn (S &&& nearF w.2 p)
        · have hc := h5 c1
          have hc64 := tb_lt hc
          have g1 := fr_lt (N := nearF w.2) hc
          have g2 := dl_lt hc
          have hS64 := pcn_le S
          have b1 := al_le (nearF w.2) (fr (nearF w.2) S c)
          have b2 := al_le (nearF w.2) (dl S c)
          rw [if_pos (show (1 : Int32) < nI _ from nI_lt (a := 1) c1 (by omega)), if_pos (inb_t hc64 (by omega)), bit_12 hc64, ob_s, nI_clamp (by omega), hy.2 c (hS c hc), hfr, ih _ (by omega) (fun i hi => hS i (fr_sb hc64 hi)), ob_s]
          have ha : (1 : Int32) + nI (al (nearF w.2) (fr (nearF w.2) S c)) = nI (1 + al (nearF w.2) (fr (nearF w.2) S c)) := nI_add 1 _
          dsimp only [bnd]
          rw [ha, ob_s, show S &&& (bit1 c ^^^ (-1)) = dl S c from rfl, ih _ (by omega) (fun i hi => hS i (dl_sb hc64 hi)), ob_s, max_J9, ob_s, mx_nI (by omega) (by omega), ← al_br hN hc]
        · have g1 := fr_lt (N := nearF w.2) h1
          rw [if_neg (show ¬ (1 : Int32) < nI _ from nI_nlt (a := 1) (by omega) (by decide)), if_pos (inb_t hp64 (by omega)), bit_12 hp64, ob_s, nI_clamp (by omega), hy.2 p hpn, hfr, ih _ (by omega) (fun i hi => hS i (fr_sb hp64 hi)), ob_s, al_loose hN h1 (by omega)]
          exact congrArg some (nI_add 1 _)
      · obtain ⟨b3, b4, b5, b6, b7⟩ := z
        obtain ⟨e1, e2⟩ := hI
        dsimp only at e1 e2
        subst e1
        have hpc := pcn_le (S &&& nearF w.2 i)
        have hst : f_X12_mostApart_22 (f_X12_mostApart n) y S (b3, b4, b5, b6, nI i) = if tb S i = true then some (.inl ((if b3 = -1 then nI (pcn (S &&& nearF w.2 i)) else if b3 ≤ nI (pcn (S &&& nearF w.2 i)) then b3 else nI (pcn (S &&& nearF w.2 i))), (if b3 = -1 then nI i else if b3 ≤ nI (pcn (S &&& nearF w.2 i)) then b4 else nI i), (if nI (pcn (S &&& nearF w.2 i)) ≤ b5 then b5 else nI (pcn (S &&& nearF w.2 i))), (if nI (pcn (S &&& nearF w.2 i)) ≤ b5 then b6 else nI i), nI (i + 1))) else some (.inl (b3, b4, b5, b6, nI (i + 1))) := by
          unfold f_X12_mostApart_22
          dsimp only
          rw [hy.1.1, if_neg (nI_ge hi (by omega)), has_12 (by omega), ob_s]
          cases hb : tb S i with
          | false =>
            rw [if_pos b2f, if_neg (by decide)]
            simp only [bnd, nI_1]
          | true =>
            rw [if_neg b2t, if_pos rfl, if_pos (inb_t (by omega) (by omega)), nI_clamp (by omega), hy.2 i hi, ones_12, ob_s, hdeg]
            simp only [bnd, nI_1]
            by_cases c1 : b3 = -1
            · rw [if_pos c1, if_pos c1, if_pos c1]
              by_cases c2 : nI (pcn (S &&& nearF w.2 i)) ≤ b5
              · rw [if_pos c2, if_pos c2, if_pos c2]
              · rw [if_neg c2, if_neg c2, if_neg c2]
            · rw [if_neg c1, if_neg c1, if_neg c1]
              by_cases c3 : b3 ≤ nI (pcn (S &&& nearF w.2 i))
              · rw [if_pos c3, if_pos c3, if_pos c3]
                by_cases c2 : nI (pcn (S &&& nearF w.2 i)) ≤ b5
                · rw [if_pos c2, if_pos c2, if_pos c2]
                · rw [if_neg c2, if_neg c2, if_neg c2]
              · rw [if_neg c3, if_neg c3, if_neg c3]
                by_cases c2 : nI (pcn (S &&& nearF w.2 i)) ≤ b5
                · rw [if_pos c2, if_pos c2, if_pos c2]
                · rw [if_neg c2, if_neg c2, if_neg c2]
        by_cases hb : tb S i = true
        · rw [if_pos hb] at hst
          refine ⟨_, hst, rfl, Or.inr ?_⟩
          dsimp only
          have hmost : ∀ mx c, mx ≤ 64 → b5 = nI mx → b6 = nI c → (0 < mx → tb S c = true) → ∃ mx' c', mx ≤ mx' ∧ pcn (S &&& nearF w.2 i) ≤ mx' ∧ mx' ≤ 64 ∧ (if nI (pcn (S &&& nearF w.2 i)) ≤ b5 then b5 else nI (pcn (S &&& nearF w.2 i))) = nI mx' ∧ (if nI (pcn (S &&& nearF w.2 i)) ≤ b5 then b6 else nI i) = nI c' ∧ (0 < mx' → tb S c' = true) := fun mx c h1 h2 h3 h4 => by
            rw [h2, h3]
            by_cases q : pcn (S &&& nearF w.2 i) ≤ mx
            · rw [if_pos (nI_le q (by omega)), if_pos (nI_le q (by omega))]
              exact ⟨mx, c, Nat.le_refl _, q, h1, rfl, rfl, h4⟩
            · rw [if_neg (nI_ge (by omega) (by omega)), if_neg (nI_ge (by omega) (by omega))]
              exact ⟨_, i, by omega, Nat.le_refl _, hpc, rfl, rfl, fun _ => hb⟩
          rcases e2 with ⟨f1, f2, f2', f3⟩ | ⟨p, c, mx, f1, f2, f3, f4, f5, f6, f7, f8, f9⟩
          · obtain ⟨mx', c', g1, g2, g3, g4, g5, g6⟩ := hmost 0 0 (by omega) f2 f2' (fun z => by omega)
            rw [g4, g5, if_pos f1, if_pos f1]
            refine ⟨i, c', mx', hb, rfl, rfl, fun k hk hs => ?_, rfl, g3, rfl, g2, g6⟩
            rcases Nat.lt_or_ge k i with g | g
            · rw [f3 k g] at hs; cases hs
            · rw [show k = i by omega]; exact Nat.le_refl _
          · obtain ⟨mx', c', g1, g2, g3, g4, g5, g6⟩ := hmost mx c f6 f5 f7 f9
            have hpc2 := pcn_le (S &&& nearF w.2 p)
            rw [g4, g5, f2, if_neg (nI_m1 (by omega)), if_neg (nI_m1 (by omega))]
            by_cases q : pcn (S &&& nearF w.2 p) ≤ pcn (S &&& nearF w.2 i)
            · rw [if_pos (nI_le q (by omega)), if_pos (nI_le q (by omega))]
              exact ⟨p, c', mx', f1, rfl, f3, fun k hk hs => by
                rcases Nat.lt_or_ge k i with g | g
                · exact f4 k g hs
                · rw [show k = i by omega]; exact q, rfl, g3, rfl, by omega, g6⟩
            · rw [if_neg (nI_ge (by omega) (by omega)), if_neg (nI_ge (by omega) (by omega))]
              exact ⟨i, c', mx', hb, rfl, rfl, fun k hk hs => by
                rcases Nat.lt_or_ge k i with g | g
                · have := f4 k g hs; omega
                · rw [show k = i by omega]; exact Nat.le_refl _, rfl, g3, rfl, g2, g6⟩
        · rw [if_neg hb] at hst
          have hb2 := eq_false_of_ne_true hb
          refine ⟨_, hst, rfl, ?_⟩
          rcases e2 with ⟨f1, f2, f2', f3⟩ | ⟨p, c, mx, f1, f2, f3, f4, f5, f6, f7, f8, f9⟩
          · exact Or.inl ⟨f1, f2, f2', fun q hq => by
              rcases Nat.lt_or_ge q i with g | g
              · exact f3 q g
              · rw [show q = i by omega]; exact hb2⟩
          · have f4' : ∀ q, q < i + 1 → tb S q = true → pcn (S &&& nearF w.2 p) ≤ pcn (S &&& nearF w.2 q) := fun q hq hs => by
              rcases Nat.lt_or_ge q i with g | g
              · exact f4 q g hs
              · rw [show q = i by omega, hb2] at hs; cases hs
            exact Or.inr ⟨p, c, mx, f1, f2, f3, f4', f5, f6, f7, f8, f9⟩
      · obtain ⟨b3, b4, b5, b6, b7⟩ := z
        obtain ⟨e1, e2⟩ := hI
        dsimp only at e1 e2
        subst e1
        rcases e2 with ⟨f1, f2, f2', f3⟩ | ⟨p, c, mx, f1, f2, f3, f4, f5, f6, f7, f8, f9⟩
        · have := f3 _ (hS _ l1)
          rw [l1] at this
          cases this
        · refine ⟨(b3, b4, b6), ?_, p, c, f1, f2, f3, f7, fun h => f9 (by omega)⟩
          unfold f_X12_mostApart_22
          dsimp only
          rw [hy.1.1, if_pos (nI_le (Nat.le_refl _) (by omega))]
end CAP
