/-! questions: cap: the most unjoined points -/
def Ind (N : Nat → Int64) (I : Int64) : Prop := ∀ p q, tb I p = true → tb I q = true → tb (N p) q = false
def sb (I S : Int64) : Prop := ∀ i, tb I i = true → tb S i = true
def ALs (N : Nat → Int64) (S : Int64) (n : Nat) : Prop := (∃ I, Ind N I ∧ sb I S ∧ pcn I = n) ∧ ∀ I, Ind N I → sb I S → pcn I ≤ n
theorem al_ex (N : Nat → Int64) (S : Int64) : ∃ n, ALs N S n := by
  have key : ∀ k, (∃ n, ALs N S n) ∨ ∃ I, Ind N I ∧ sb I S ∧ k ≤ pcn I := by
    intro k
    induction k with
    | zero => exact Or.inr ⟨0, fun p q h => (by rw [tb_0] at h; cases h), fun i h => (by rw [tb_0] at h; cases h), Nat.zero_le _⟩
    | succ k ih =>
      rcases ih with h | ⟨I, h1, h2, h3⟩
      · exact Or.inl h
      · by_cases c : ∃ J, Ind N J ∧ sb J S ∧ k + 1 ≤ pcn J
        · exact Or.inr c
        · refine Or.inl ⟨pcn I, ⟨I, h1, h2, rfl⟩, fun J j1 j2 => ?_⟩
          rcases Nat.lt_or_ge (pcn I) (pcn J) with q | q
          · exact absurd ⟨J, j1, j2, by omega⟩ c
          · exact q
  rcases key 65 with h | ⟨I, _, _, h⟩
  · exact h
  · have := pcn_le I
    omega
noncomputable def al (N : Nat → Int64) (S : Int64) : Nat := Classical.choose (al_ex N S)
theorem al_s (N : Nat → Int64) (S : Int64) : ALs N S (al N S) := Classical.choose_spec (al_ex N S)
def dl (S : Int64) (p : Nat) : Int64 := S &&& (bit1 p ^^^ (-1))
def fr (N : Nat → Int64) (S : Int64) (p : Nat) : Int64 := dl S p &&& (N p ^^^ (-1))
def NB (N : Nat → Int64) : Prop := (∀ p q, p < 64 → tb (N p) q = true → tb (N q) p = true) ∧ ∀ p, tb (N p) p = false
theorem tb_dl {S : Int64} {p i : Nat} (hp : p < 64) : tb (dl S p) i = true ↔ tb S i = true ∧ i ≠ p := by
  unfold dl
  rw [tb_dif, tb_bit1 hp, Bool.and_eq_true]
  simp
theorem tb_fr {N : Nat → Int64} {S : Int64} {p i : Nat} (hp : p < 64) : tb (fr N S p) i = true ↔ (tb S i = true ∧ i ≠ p) ∧ tb (N p) i = false := by
  unfold fr
  rw [tb_dif, Bool.and_eq_true, tb_dl hp]
  simp
theorem pcn_add1 {I : Int64} {p : Nat} (hp : p < 64) (h : tb I p = false) : pcn (I ||| bit1 p) = pcn I + 1 := pcn_or1 hp h
theorem pcn_del1 {I : Int64} {p : Nat} (h : tb I p = true) : pcn (dl I p) + 1 = pcn I := by
  have hp := tb_lt h
  have h2 : tb (dl I p) p = false := eq_false_of_ne_true (fun z => ((tb_dl hp).mp z).2 rfl)
  rw [← pcn_or1 hp h2]
  congr 1
  refine tb_ext (fun i _ => ?_)
  rw [Bool.eq_iff_iff, tb_or, Bool.or_eq_true, tb_dl hp, tb_bit1 hp, decide_eq_true_iff]
  by_cases q : i = p
  · rw [q]; simp [h]
  · simp [q]
section ALP
variable {N : Nat → Int64}
theorem al_mono {S T : Int64} (h : sb S T) : al N S ≤ al N T := by
  obtain ⟨⟨I, h1, h2, h3⟩, _⟩ := al_s N S
  have := (al_s N T).2 I h1 (fun i hi => h i (h2 i hi))
  omega
theorem al_in (hN : NB N) {S : Int64} {p : Nat} (hp : tb S p = true) : 1 + al N (fr N S p) ≤ al N S := by
  have hp64 := tb_lt hp
  obtain ⟨⟨I, h1, h2, h3⟩, _⟩ := al_s N (fr N S p)
  have hI : ∀ i, tb I i = true → (tb S i = true ∧ i ≠ p) ∧ tb (N p) i = false := fun i hi => (tb_fr hp64).mp (h2 i hi)
  have hnp : tb I p = false := eq_false_of_ne_true (fun z => (hI p z).1.2 rfl)
  have := (al_s N S).2 (I ||| bit1 p) (fun a b ha hb => by
    rw [tb_or, Bool.or_eq_true, tb_bit1 hp64, decide_eq_true_iff] at ha hb
    rcases ha with ha | ha <;> rcases hb with hb | hb
    · exact h1 a b ha hb
    · rw [hb]
      refine eq_false_of_ne_true (fun z => ?_)
      have := hN.1 a p (tb_lt ha) z
      rw [(hI a ha).2] at this
      cases this
    · rw [ha]; exact (hI b hb).2
    · rw [ha, hb]; exact hN.2 p) (fun i hi => by
    rw [tb_or, Bool.or_eq_true, tb_bit1 hp64, decide_eq_true_iff] at hi
    rcases hi with hi | hi
    · exact (hI i hi).1.1
    · rw [hi]; exact hp)
  rw [pcn_add1 hp64 hnp] at this
  omega
theorem al_out {S : Int64} {p : Nat} (hp : tb S p = true) : al N S ≤ 1 + al N (fr N S p) ∨ al N S ≤ al N (dl S p) := by
  have hp64 := tb_lt hp
  obtain ⟨⟨I, h1, h2, h3⟩, _⟩ := al_s N S
  by_cases q : tb I p = true
  · left
    have := (al_s N (fr N S p)).2 (dl I p) (fun a b ha hb => h1 a b ((tb_dl hp64).mp ha).1 ((tb_dl hp64).mp hb).1) (fun i hi => by
      have := (tb_dl hp64).mp hi
      exact (tb_fr hp64).mpr ⟨⟨h2 i this.1, this.2⟩, h1 p i q this.1⟩)
    have := pcn_del1 q
    omega
  · right
    have := (al_s N (dl S p)).2 I h1 (fun i hi => (tb_dl hp64).mpr ⟨h2 i hi, fun z => q (by rw [← z]; exact hi)⟩)
    omega
theorem al_dl {S : Int64} {p : Nat} (hp : tb S p = true) : al N (dl S p) ≤ al N S := al_mono (fun i hi => ((tb_dl (tb_lt hp)).mp hi).1)
theorem al_one {S : Int64} {p : Nat} (hp : p < 64) : al N S ≤ 1 + al N (dl S p) := by
  obtain ⟨⟨I, h1, h2, h3⟩, _⟩ := al_s N S
  by_cases q : tb I p = true
  · have := (al_s N (dl S p)).2 (dl I p) (fun a b ha hb => h1 a b ((tb_dl hp).mp ha).1 ((tb_dl hp).mp hb).1) (fun i hi => by
      have := (tb_dl hp).mp hi
      exact (tb_dl hp).mpr ⟨h2 i this.1, this.2⟩)
    have := pcn_del1 q
    omega
  · have := (al_s N (dl S p)).2 I h1 (fun i hi => (tb_dl hp).mpr ⟨h2 i hi, fun z => q (by rw [← z]; exact hi)⟩)
    omega
theorem al_br (hN : NB N) {S : Int64} {p : Nat} (hp : tb S p = true) : al N S = mxN (1 + al N (fr N S p)) (al N (dl S p)) := by
  have h1 := al_in hN hp
  have h2 := al_dl (N := N) hp
  unfold mxN
  rcases al_out (N := N) hp with h | h
  · split <;> omega
  · split <;> omega
/-- what two sets share with a point's near ones -/
theorem one_of {x : Int64} (h : pcn x = 1) : ∃ k, k < 64 ∧ ∀ i, tb x i = true ↔ i = k := by
  have h0 : x ≠ 0 := fun z => by rw [z, pcn_zero] at h; cases h
  obtain ⟨l1, l2, _⟩ := low_tb h0
  have h2 := pcn_del1 l1
  have h3 : dl x (low x) = 0 := pcn_0.mp (by omega)
  refine ⟨low x, l2, fun i => ⟨fun hi => ?_, fun e => by rw [e]; exact l1⟩⟩
  false_or_by_contra
  rename_i hne
  have : tb (dl x (low x)) i = true := (tb_dl l2).mpr ⟨hi, hne⟩
  rw [h3, tb_0] at this
  cases this
theorem two_of {x : Int64} {a : Nat} (h : pcn x = 2) (ha : tb x a = true) : ∃ k, k < 64 ∧ k ≠ a ∧ ∀ i, tb x i = true ↔ (i = a ∨ i = k) := by
  have ha64 := tb_lt ha
  have h2 := pcn_del1 ha
  obtain ⟨k, k1, k2⟩ := one_of (x := dl x a) (by omega)
  have h3 := (tb_dl ha64).mp ((k2 k).mpr rfl)
  refine ⟨k, k1, h3.2, fun i => ?_⟩
  by_cases q : i = a
  · rw [q]; simp [ha]
  · have := k2 i
    rw [tb_dl ha64] at this
    constructor
    · intro hi; exact Or.inr (this.mp ⟨hi, q⟩)
    · intro hi
      exact (this.mpr (hi.resolve_left q)).1
theorem pcn_set {x : Int64} {k : Nat} (hk : k < 64) (h : ∀ i, tb x i = true ↔ i = k) : pcn x = 1 := by
  have e : x = bit1 k := tb_ext (fun i _ => by rw [Bool.eq_iff_iff, h i, tb_bit1 hk, decide_eq_true_iff])
  have := pcn_or1 (x := 0) hk (tb_0 k)
  rw [pcn_zero] at this
  rw [e]
  have h0 : (0 : Int64) ||| bit1 k = bit1 k := tb_ext (fun i _ => by rw [tb_or, tb_0, Bool.false_or])
  rw [h0] at this
  exact this
theorem pcn_same {x y : Int64} (h : ∀ i, tb x i = true ↔ tb y i = true) : pcn x = pcn y := by
  rw [show x = y from tb_ext (fun i _ => Bool.eq_iff_iff.mpr (h i))]
theorem tb_an {S x : Int64} {i : Nat} : tb (S &&& x) i = true ↔ tb S i = true ∧ tb x i = true := by rw [tb_and, Bool.and_eq_true]
/-- a point with at most one near one -/
theorem al_loose (hN : NB N) {S : Int64} {p : Nat} (hp : tb S p = true) (hd : pcn (S &&& N p) ≤ 1) : al N S = 1 + al N (fr N S p) := by
  have hp64 := tb_lt hp
  have h1 := al_in hN hp
  rcases al_out (N := N) hp with h | h
  · omega
  · have h2 : al N (dl S p) ≤ 1 + al N (fr N S p) := by
      rcases Nat.eq_zero_or_pos (pcn (S &&& N p)) with q | q
      · have hz := pcn_0.mp q
        have := al_mono (N := N) (S := dl S p) (T := fr N S p) (fun i hi => by
          have h3 := (tb_dl hp64).mp hi
          refine (tb_fr hp64).mpr ⟨h3, eq_false_of_ne_true (fun z => ?_)⟩
          have : tb (S &&& N p) i = true := tb_an.mpr ⟨h3.1, z⟩
          rw [hz, tb_0] at this
          cases this)
        omega
      · obtain ⟨a, a1, a2⟩ := one_of (x := S &&& N p) (by omega)
        have h3 := al_one (N := N) (S := dl S p) a1
        have := al_mono (N := N) (S := dl (dl S p) a) (T := fr N S p) (fun i hi => by
          have h3 := (tb_dl a1).mp hi
          have h4 := (tb_dl hp64).mp h3.1
          refine (tb_fr hp64).mpr ⟨h4, eq_false_of_ne_true (fun z => h3.2 ?_)⟩
          exact (a2 i).mp (tb_an.mpr ⟨h4.1, z⟩))
        omega
    omega
/-- a path among rings: both its ends can be left -/
theorem al_path (hN : NB N) : ∀ (n : Nat) (P : Int64) (a b : Nat), pcn P ≤ n → a ≠ b → tb P a = true → tb P b = true → pcn (P &&& N a) = 1 → pcn (P &&& N b) = 1 → (∀ c, tb P c = true → c ≠ a → c ≠ b → pcn (P &&& N c) = 2) → al N P ≤ 1 + al N (dl (dl P a) b) := by
  intro n
  induction n with
  | zero =>
    intro P a b hn _ ha
    have := pcn_pos ha
    omega
  | succ n ih =>
    intro P a b hn hab ha hb da db dc
    have ha64 := tb_lt ha
    have hb64 := tb_lt hb
    obtain ⟨x, x1, x2⟩ := one_of da
    have hx := tb_an.mp ((x2 x).mpr rfl)
    have e1 := al_loose hN ha (by omega)
    have hxa : x ≠ a := fun z => by have := hx.2; rw [z, hN.2 a] at this; cases this
    have inQ : ∀ i, tb (fr N P a) i = true ↔ tb P i = true ∧ i ≠ a ∧ i ≠ x := fun i => by
      rw [tb_fr ha64]
      constructor
      · rintro ⟨⟨h1, h2⟩, h3⟩
        refine ⟨h1, h2, fun z => ?_⟩
        rw [z, hx.2] at h3
        cases h3
      · rintro ⟨h1, h2, h3⟩
        exact ⟨⟨h1, h2⟩, eq_false_of_ne_true (fun z => h3 ((x2 i).mp (tb_an.mpr ⟨h1, z⟩)))⟩
    by_cases hxb : x = b
    · have := al_mono (N := N) (S := fr N P a) (T := dl (dl P a) b) (fun i hi => by
        have h1 := (inQ i).mp hi
        exact (tb_dl hb64).mpr ⟨(tb_dl ha64).mpr ⟨h1.1, h1.2.1⟩, fun z => h1.2.2 (z.trans hxb.symm)⟩)
      omega
    · have hax : tb (P &&& N x) a = true := tb_an.mpr ⟨ha, hN.1 a x ha64 hx.2⟩
      obtain ⟨y, y1, y2, y3⟩ := two_of (dc x hx.1 hxa hxb) hax
      have hy := tb_an.mp ((y3 y).mpr (Or.inr rfl))
      have hyx : y ≠ x := fun z => by have := hy.2; rw [z, hN.2 x] at this; cases this
      have hxR : tb (dl (dl P a) b) x = true := (tb_dl hb64).mpr ⟨(tb_dl ha64).mpr ⟨hx.1, hxa⟩, hxb⟩
      have e2 := al_in hN hxR
      have inR : ∀ i, tb P i = true → i ≠ a → i ≠ b → i ≠ x → i ≠ y → tb (fr N (dl (dl P a) b) x) i = true := fun i h1 h2 h3 h4 h5 =>
        (tb_fr x1).mpr ⟨⟨(tb_dl hb64).mpr ⟨(tb_dl ha64).mpr ⟨h1, h2⟩, h3⟩, h4⟩, eq_false_of_ne_true (fun z => ((y3 i).mp (tb_an.mpr ⟨h1, z⟩)).elim h2 h5)⟩
      by_cases hyb : y = b
      · have h3 := al_one (N := N) (S := fr N P a) hb64
        have := al_mono (N := N) (S := dl (fr N P a) b) (T := fr N (dl (dl P a) b) x) (fun i hi => by
          have h4 := (tb_dl hb64).mp hi
          have h5 := (inQ i).mp h4.1
          exact inR i h5.1 h5.2.1 h4.2 h5.2.2 (fun z => h4.2 (z.trans hyb)))
        omega
      · have hyQ : tb (fr N P a) y = true := (inQ y).mpr ⟨hy.1, y2, hyx⟩
        have hbQ : tb (fr N P a) b = true := (inQ b).mpr ⟨hb, fun z => hab z.symm, fun z => hxb z.symm⟩
        have na : ∀ c, tb P c = true → c ≠ x → tb (N c) a = false := fun c hc hne => eq_false_of_ne_true (fun z => hne ((x2 c).mp (tb_an.mpr ⟨hc, hN.1 c a (tb_lt hc) z⟩)))
        have nx : ∀ c, tb P c = true → c ≠ a → c ≠ y → tb (N c) x = false := fun c hc h1 h2 => eq_false_of_ne_true (fun z => ((y3 c).mp (tb_an.mpr ⟨hc, hN.1 c x (tb_lt hc) z⟩)).elim h1 h2)
        have keep : ∀ c, tb P c = true → c ≠ a → c ≠ x → c ≠ y → pcn (fr N P a &&& N c) = pcn (P &&& N c) := fun c hc h1 h2 h3 => pcn_same (fun i => by
          rw [tb_an, tb_an, inQ i]
          constructor
          · rintro ⟨⟨g1, _⟩, g2⟩; exact ⟨g1, g2⟩
          · rintro ⟨g1, g2⟩
            refine ⟨⟨g1, fun z => ?_, fun z => ?_⟩, g2⟩
            · rw [z, na c hc h2] at g2; cases g2
            · rw [z, nx c hc h1 h3] at g2; cases g2)
        have dy : pcn (fr N P a &&& N y) = 1 := by
          have hxy : tb (P &&& N y) x = true := tb_an.mpr ⟨hx.1, hN.1 x y x1 hy.2⟩
          obtain ⟨z, z1, z2, z3⟩ := two_of (dc y hy.1 y2 hyb) hxy
          have hz := tb_an.mp ((z3 z).mpr (Or.inr rfl))
          refine pcn_set z1 (fun i => ?_)
          rw [tb_an, inQ i]
          constructor
          · rintro ⟨⟨g1, _, g3⟩, g4⟩
            exact ((z3 i).mp (tb_an.mpr ⟨g1, g4⟩)).resolve_left g3
          · intro e
            rw [e]
            refine ⟨⟨hz.1, fun q => ?_, z2⟩, hz.2⟩
            have := hz.2
            rw [q, na y hy.1 hyx] at this
            cases this
        have hpc : pcn (fr N P a) ≤ n := by
          have h1 : pcn (fr N P a) ≤ pcn (dl P a) := pcn_mono (fun i hi => (tb_dl ha64).mpr ⟨((inQ i).mp hi).1, ((inQ i).mp hi).2.1⟩)
          have := pcn_del1 ha
          omega
        have e3 := ih (fr N P a) y b hpc hyb hyQ hbQ dy (by rw [keep b hb (fun z => hab z.symm) (fun z => hxb z.symm) (fun z => hyb z.symm)]; exact db) (fun c hc h1 h2 => by
          have g := (inQ c).mp hc
          rw [keep c g.1 g.2.1 g.2.2 h1]
          exact dc c g.1 g.2.1 h2)
        have := al_mono (N := N) (S := dl (dl (fr N P a) y) b) (T := fr N (dl (dl P a) b) x) (fun i hi => by
          have h4 := (tb_dl hb64).mp hi
          have h6 := (tb_dl y1).mp h4.1
          have h5 := (inQ i).mp h6.1
          exact inR i h5.1 h5.2.1 h4.2 h5.2.2 h6.2)
        omega
/-- rings: any point will do -/
theorem al_ring (hN : NB N) {S : Int64} {p : Nat} (hp : tb S p = true) (hd : ∀ c, tb S c = true → pcn (S &&& N c) = 2) : al N S = 1 + al N (fr N S p) := by
  have hp64 := tb_lt hp
  have h1 := al_in hN hp
  rcases al_out (N := N) hp with h | h
  · omega
  · have hdp := hd p hp
    have hz : S &&& N p ≠ 0 := fun z => by rw [z, pcn_zero] at hdp; cases hdp
    obtain ⟨l1, l2, _⟩ := low_tb hz
    generalize low (S &&& N p) = a at l1 l2
    obtain ⟨b, b1, b2, b3⟩ := two_of hdp l1
    have ha := tb_an.mp l1
    have hb := tb_an.mp ((b3 b).mpr (Or.inr rfl))
    have hap : a ≠ p := fun z => by have := ha.2; rw [z, hN.2 p] at this; cases this
    have hbp : b ≠ p := fun z => by have := hb.2; rw [z, hN.2 p] at this; cases this
    have d1 : ∀ c, tb S c = true → tb (N p) c = true → pcn (dl S p &&& N c) = 1 := fun c hc hcp => by
      have hpc : tb (S &&& N c) p = true := tb_an.mpr ⟨hp, hN.1 p c hp64 hcp⟩
      obtain ⟨k, k1, k2, k3⟩ := two_of (hd c hc) hpc
      have hk := tb_an.mp ((k3 k).mpr (Or.inr rfl))
      refine pcn_set k1 (fun i => ?_)
      rw [tb_an, tb_dl hp64]
      constructor
      · rintro ⟨⟨g1, g2⟩, g3⟩
        exact ((k3 i).mp (tb_an.mpr ⟨g1, g3⟩)).resolve_left g2
      · intro e
        rw [e]
        exact ⟨⟨hk.1, k2⟩, hk.2⟩
    have h2 := al_path hN (pcn (dl S p)) (dl S p) a b (Nat.le_refl _) (fun z => b2 z.symm) ((tb_dl hp64).mpr ⟨ha.1, hap⟩) ((tb_dl hp64).mpr ⟨hb.1, hbp⟩) (d1 a ha.1 ha.2) (d1 b hb.1 hb.2) (fun c hc c1 c2 => by
      have g := (tb_dl hp64).mp hc
      rw [← hd c g.1]
      refine pcn_same (fun i => ?_)
      rw [tb_an, tb_an, tb_dl hp64]
      constructor
      · rintro ⟨⟨g1, _⟩, g3⟩; exact ⟨g1, g3⟩
      · rintro ⟨g1, g3⟩
        refine ⟨⟨g1, fun z => ?_⟩, g3⟩
        rw [z] at g3
        have := hN.1 c p (tb_lt g.1) g3
        exact ((b3 c).mp (tb_an.mpr ⟨g.1, this⟩)).elim c1 c2)
    have := al_mono (N := N) (S := dl (dl (dl S p) a) b) (T := fr N S p) (fun i hi => by
      have h4 := (tb_dl b1).mp hi
      have h5 := (tb_dl l2).mp h4.1
      have h6 := (tb_dl hp64).mp h5.1
      exact (tb_fr hp64).mpr ⟨h6, eq_false_of_ne_true (fun z => ((b3 i).mp (tb_an.mpr ⟨h6.1, z⟩)).elim h5.2 h4.2)⟩)
    omega
end ALP
