/-! the text: the reference reads it -/
def KW12 (st x : OS) : Prop := (∀ k, k ≠ 7 → k ≠ 8 → k ≠ 9 → k ≠ 10 → k ≠ 11 → k ≠ 12 → k ≠ 15 → k ≠ 16 → x.1 k = st.1 k) ∧ (∀ k, k ≠ 18 → k ≠ 19 → x.2.2.1 k = st.2.2.1 k) ∧ ∀ k, k ≠ 17 → x.2.2.2 k = st.2.2.2 k
theorem KW12.rf {st : OS} : KW12 st st := ⟨fun _ _ _ _ _ _ _ _ _ => rfl, fun _ _ _ => rfl, fun _ _ => rfl⟩
theorem KW12.tr {st x y : OS} (h : KW12 st x) (g : KW12 x y) : KW12 st y := ⟨fun k a b c d e f i j => (g.1 k a b c d e f i j).trans (h.1 k a b c d e f i j), fun k a b => (g.2.1 k a b).trans (h.2.1 k a b), fun k a => (g.2.2 k a).trans (h.2.2 k a)⟩
theorem KR12.w {st x : OS} (h : KR12 st x) : KW12 st x := ⟨fun k a b c d _ _ _ _ => h.2 k a b c d, fun k _ _ => by rw [h.1], fun k _ => by rw [h.1]⟩
theorem KM12.w {st x : OS} (h : KM12 st x) : KW12 st x := ⟨fun k _ _ _ _ _ _ a b => h.1 k a b, h.2.1, h.2.2⟩
theorem KW12.o {st x : OS} (h : KW12 st x) {k : Nat} (hk : k = 11 ∨ k = 12 ∨ k = 15) (v : Int32) : KW12 st (oI x k v) := ⟨fun j a b c d e f g i => by rw [oI_ne _ (by omega)]; exact h.1 j a b c d e f g i, h.2.1, h.2.2⟩
theorem RB12.w {st x : OS} {T : Nat → Nat} {n : Nat} (h : RB12 st T n) (k : KW12 st x) : RB12 x T n := ⟨(k.1 6 (by decide) (by decide) (by decide) (by decide) (by decide) (by decide) (by decide) (by decide)).trans h.1, h.2.1, fun i hi => by rw [k.2.1 4 (by decide) (by decide)]; exact h.2.2 i hi⟩
/-- where the reference stands -/
def MR (T : Nat → Nat) (n : Nat) (x : OS) : RD → Prop
  | .inl (a, p, l) => TK12 x T n a ∧ a ≤ n ∧ x.1 11 = 0 ∧ NW12 x p l
  | .inr (k, q) => x.1 11 = nI k ∧ x.1 12 = nI q ∧ 1 ≤ k ∧ k < 5
theorem NW12.k {x y : OS} {p : Nat} {l : List Int64} (h : NW12 x p l) (k : KR12 x y) : NW12 y p l := ⟨(k.2 15 (by decide) (by decide) (by decide) (by decide)).trans h.1, (k.2 16 (by decide) (by decide) (by decide) (by decide)).trans h.2.1, h.2.2.1, fun i hi => by rw [k.1]; exact h.2.2.2 i hi⟩
def stopOf (T : Nat → Nat) (n : Nat) : RD → RD
  | .inl (a, p, l) => stopP T n a p l
  | .inr e => .inr e
section RRD
variable {x : OS} {T : Nat → Nat} {n : Nat}
theorem rk_lt (k : Nat) : rkT k < 5 := by
  unfold rkT
  split
  · decide
  · split
    · decide
    · split
      · decide
      · split <;> decide
theorem blames_12 {a k : Nat} (hk : 1 ≤ k) (hk2 : k < 5) (hT : TK12 x T n a) (h11 : x.1 11 = 0) : ∃ y, f_X12_blames x (nI k) = some y ∧ KW12 x y ∧ MR T n y (.inr (flT T n a k)) := by
  have hf := flT_k (T := T) (n := n) (a := a) hk hk2
  have hr := rk_lt (kdT T n a)
  have hl := kd_lt T n a
  unfold f_X12_blames
  dsimp only [bnd]
  rw [h11, if_pos rfl, hT.2.2.1]
  have hc : rkT (kdT T n a) = 4 ↔ kdT T n a = 3 := by
    unfold rkT
    constructor
    · intro z
      split at z
      · omega
      · split at z
        · omega
        · split at z
          · omega
          · split at z
            · assumption
            · omega
    · intro z
      rw [z]
      rfl
  by_cases c : kdT T n a = 3
  · rw [if_pos (show nI (rkT (kdT T n a)) = (4 : Int32) from congrArg nI (hc.mpr c))]
    refine ⟨_, rfl, (KW12.rf.o (by omega) _).o (by omega) _, ?_, ?_, hf⟩
    · rw [oI_ne _ (by decide), oI_self]
      rw [if_pos c]
      rfl
    · rw [oI_self, oI_ne _ (by decide)]
      exact hT.1
  · rw [if_neg (show ¬ nI (rkT (kdT T n a)) = (4 : Int32) from nI_neq (b := 4) (by omega) (by decide) (fun z => c (hc.mp z)))]
    refine ⟨_, rfl, (KW12.rf.o (by omega) _).o (by omega) _, ?_, ?_, hf⟩
    · rw [oI_ne _ (by decide), oI_self]
      rw [if_neg c]
    · rw [oI_self, oI_ne _ (by decide)]
      exact hT.1
theorem blames_bad {k : Int32} (h : ¬ x.1 11 = 0) : f_X12_blames x k = some x := by
  unfold f_X12_blames
  rw [if_neg h]
theorem within_g (a b c : Int32) : f_X12_within a.toInt64 b.toInt64 c.toInt64 = some (if a < b ∨ c < a then 0 else 1) := by
  unfold f_X12_within
  simp only [lg_cmp_lt, lg_cmp_gt, fa_wide_lt]
  by_cases h1 : a < b
  · rw [if_pos h1, if_pos (Or.inl h1)]
  · rw [if_neg h1]
    by_cases h2 : c < a
    · rw [if_pos h2, if_pos (Or.inr h2)]
    · rw [if_neg h2, if_neg (fun z => z.elim h1 h2)]
theorem number_12 (hR : RB12 x T n) {a lo hi : Nat} (hT : TK12 x T n a) (ha : a ≤ n) (h11 : x.1 11 = 0) (hlo : lo < 1000) (hhi : hi < 1000) :
    (∃ v y, numP T n a lo hi = .inl v ∧ f_X12_number x (nI lo) (nI hi) = some (nI v, y) ∧ KR12 x y ∧ TK12 y T n (enT T n a) ∧ y.1 11 = 0) ∨ ∃ e y, numP T n a lo hi = .inr e ∧ f_X12_number x (nI lo) (nI hi) = some (nI lo, y) ∧ KW12 x y ∧ MR T n y (.inr e) := by
  have hl := kd_lt T n a
  have hr2 : x.1 9 = 2 ↔ kdT T n a = 2 := by
    rw [hT.2.2.1]
    have hr := rk_lt (kdT T n a)
    constructor
    · intro z
      have z2 : rkT (kdT T n a) = 2 := (nI_eq (b := 2) (by omega) (by decide)).mp z
      unfold rkT at z2
      split at z2
      · omega
      · split at z2
        · omega
        · split at z2
          · assumption
          · split at z2 <;> omega
    · intro z; rw [z]; rfl
  unfold f_X12_number numP
  by_cases c : kdT T n a = 2
  · have hv := (nv_lt c).1
    rw [if_pos (hr2.mpr c), if_pos c, hT.2.2.2 c, within_g, ob_s]
    have hcond : (nI (nvT T n a) < nI lo ∨ nI hi < nI (nvT T n a)) ↔ (nvT T n a < lo ∨ hi < nvT T n a) := by
      have q : ∀ a b, a < 1000 → b < 1000 → (nI a < nI b ↔ a < b) := fun a b ha hb => ⟨fun z => by
        rcases Nat.lt_or_ge a b with y | y
        · exact y
        · exact absurd z (nI_nlt y (by omega)), fun z => nI_lt z (by omega)⟩
      rw [q _ _ hv hlo, q _ _ hhi hv]
    by_cases d : nvT T n a < lo ∨ hi < nvT T n a
    · right
      obtain ⟨y, f1, f2, f3⟩ := blames_12 (k := 3) (by decide) (by decide) hT h11
      have y11 : ¬ y.1 11 = 0 := by rw [f3.1]; exact nI_ne_0 f3.2.2.1 f3.2.2.2
      rw [if_pos (hcond.mpr d), if_pos rfl, if_pos d, show (3 : Int32) = nI 3 from rfl, f1, ob_s]
      dsimp only [bnd]
      rw [if_neg y11, if_neg y11]
      exact ⟨_, y, rfl, rfl, f2, f3⟩
    · left
      obtain ⟨y, e1, k1, t1⟩ := reads_12 hR hT.2.1 (enT_le ha)
      have y11 : y.1 11 = 0 := (k1.2 11 (by decide) (by decide) (by decide) (by decide)).trans h11
      rw [if_neg (fun z => d (hcond.mp z)), if_neg ne10, if_neg d]
      dsimp only [bnd]
      rw [h11, if_pos rfl, e1, ob_s, if_pos y11]
      exact ⟨_, y, rfl, rfl, k1, t1, y11⟩
  · right
    obtain ⟨y, f1, f2, f3⟩ := blames_12 (k := 2) (by decide) (by decide) hT h11
    have y11 : ¬ y.1 11 = 0 := by rw [f3.1]; exact nI_ne_0 f3.2.2.1 f3.2.2.2
    rw [if_neg (fun z => c (hr2.mp z)), if_neg c, show (2 : Int32) = nI 2 from rfl, f1, ob_s]
    dsimp only [bnd]
    rw [if_neg y11, if_neg y11]
    exact ⟨_, y, rfl, rfl, f2, f3⟩
theorem number_bad {lo hi : Int32} (h : ¬ x.1 11 = 0) : f_X12_number x lo hi = some (lo, x) := by
  unfold f_X12_number
  rw [blames_bad h, blames_bad h]
  simp only [ob_s, bnd]
  rw [if_neg h, if_neg h]
  by_cases c : x.1 9 = 2
  · rw [if_pos c, within_g, ob_s, ite_self]
  · rw [if_neg c]
theorem isWord_12 (hR : RB12 x T n) {a s : Nat} (hT : TK12 x T n a) (ha : a ≤ n) (h11 : x.1 11 = 0) (hs : s < sTab.length) : f_X12_isWord x s = some (b2i (decide (4 ≤ kdT T n a) && wdT T (bgT T n a) (enT T n a) s)) := by
  have hn := hR.2.1
  have hsl := sLen_lt s hs
  have hen := enT_le (T := T) ha
  have heb := enT_ge T n a
  have hr := rk_lt (kdT T n a)
  have h0 : lpv (f_X12_isWord_39 x s) (0, 0) = some 0 := lpv_out (by
    unfold f_X12_isWord_39
    dsimp only
    rw [if_pos rfl])
  have hr1 : x.1 9 = 1 ↔ 4 ≤ kdT T n a := by
    rw [hT.2.2.1]
    constructor
    · intro z
      have z2 : rkT (kdT T n a) = 1 := (nI_eq (b := 1) (by omega) (by decide)).mp z
      unfold rkT at z2
      split at z2
      · omega
      · split at z2
        · omega
        · split at z2
          · omega
          · split at z2 <;> omega
    · intro z
      unfold rkT
      rw [if_neg (by omega), if_neg (by omega), if_neg (by omega), if_neg (by omega)]
      rfl
  unfold f_X12_isWord
  rw [h11, if_pos rfl]
  by_cases c : 4 ≤ kdT T n a
  · rw [if_pos (hr1.mpr c), decide_eq_true c, Bool.true_and, hT.1, hT.2.1, pk_sub heb]
    unfold wdT
    by_cases d : sLen s = enT T n a - bgT T n a
    · rw [if_pos (congrArg nI d.symm), decide_eq_true d, Bool.true_and]
      have key := lpv_inv (f := f_X12_isWord_39 x s) (fun j z => z.2 = nI j ∧ ((z.1 = 1 ∧ ∀ i, i < j → nI (T (bgT T n a + i)) = sCh s i) ∨ (z.1 = 0 ∧ ¬ ∀ i, i < sLen s → nI (T (bgT T n a + i)) = sCh s i))) (sLen s) (fun r => (r = 1 ∧ ∀ i, i < sLen s → nI (T (bgT T n a + i)) = sCh s i) ∨ (r = 0 ∧ ¬ ∀ i, i < sLen s → nI (T (bgT T n a + i)) = sCh s i)) (fun j z hj hI => ?_) (fun z hI => ?_) 0 (1, 0) (Nat.zero_le _) ⟨rfl, Or.inl ⟨rfl, fun i hi => by omega⟩⟩
      · obtain ⟨r, e1, e2⟩ := key
        rw [e1, ob_s]
        have hall : allF (fun i => decide (nI (T (bgT T n a + i)) = sCh s i)) 0 (sLen s) = true ↔ ∀ i, i < sLen s → nI (T (bgT T n a + i)) = sCh s i := by
          rw [allF_iff]
          exact ⟨fun h i hi => of_decide_eq_true (h i (Nat.zero_le _) (by omega)), fun h i _ hi => decide_eq_true (h i (by omega))⟩
        rcases e2 with ⟨e2, e3⟩ | ⟨e2, e3⟩
        · rw [e2, hall.mpr e3]; rfl
        · rw [e2, Bool.eq_false_iff.mpr (fun z => e3 (hall.mp z))]; rfl
      · obtain ⟨u, w⟩ := z
        obtain ⟨g1, g2⟩ := hI
        dsimp only at g1 g2
        subst g1
        rcases g2 with ⟨g2, g3⟩ | ⟨g2, g3⟩
        · left
          subst g2
          have hst : f_X12_isWord_39 x s (1, nI j) = if nI (T (bgT T n a + j)) = sCh s j then some (.inl (1, nI (j + 1))) else some (.inl (0, nI (j + 1))) := by
            unfold f_X12_isWord_39
            dsimp only
            rw [if_neg ne10, if_neg (nI_ge hj (by omega)), hT.1, nI_add, if_pos (inb_t (by omega) (by omega)), if_pos (inb_t hj (by omega)), nI_clamp (by omega), nI_clamp (by omega), (hR.2.2 _ (by omega)).2]
            dsimp only [bnd]
            rw [nI_1]
          rw [hst]
          by_cases e : nI (T (bgT T n a + j)) = sCh s j
          · rw [if_pos e]
            exact ⟨_, rfl, rfl, Or.inl ⟨rfl, fun i hi => by
              rcases Nat.lt_or_ge i j with q | q
              · exact g3 i q
              · rw [show i = j by omega]; exact e⟩⟩
          · rw [if_neg e]
            exact ⟨_, rfl, rfl, Or.inr ⟨rfl, fun z => e (z j hj)⟩⟩
        · right
          subst g2
          refine ⟨0, ?_, Or.inr ⟨rfl, g3⟩⟩
          unfold f_X12_isWord_39
          dsimp only
          rw [if_pos rfl]
      · obtain ⟨u, w⟩ := z
        obtain ⟨g1, g2⟩ := hI
        dsimp only at g1 g2
        subst g1
        refine ⟨u, ?_, g2⟩
        unfold f_X12_isWord_39
        dsimp only
        by_cases q : u = 0
        · rw [if_pos q]
        · rw [if_neg q, if_pos (nI_le (Nat.le_refl _) (by omega))]
    · rw [if_neg (fun z => d ((nI_eq (by omega) (by omega)).mp z).symm), decide_eq_false d, h0, ob_s]
      rfl
  · rw [if_neg (fun z => c (hr1.mp z)), decide_eq_false c, h0, ob_s]
    rfl
/-- the reference's words are the class's -/
theorem sTab_20 : ∀ s, s < 7 → 1 ≤ s → sLen (s + 20) = sLen s ∧ ∀ i, i < sLen s → sCh (s + 20) i = sCh s i := by decide +kernel
theorem wd_20 {b e s : Nat} (h1 : 1 ≤ s) (h2 : s < 7) : wdT T b e (s + 20) = wdT T b e s := by
  obtain ⟨a1, a2⟩ := sTab_20 s h2 h1
  unfold wdT
  rw [a1]
  congr 1
  refine Bool.eq_iff_iff.mpr ?_
  rw [allF_iff, allF_iff]
  constructor
  · intro h i hi1 hi2
    have := h i hi1 hi2
    rw [a2 i (by omega)] at this
    exact this
  · intro h i hi1 hi2
    have := h i hi1 hi2
    rw [← a2 i (by omega)] at this
    exact this
theorem kd_wr {a : Nat} (h : 4 ≤ kdT T n a) : kdT T n a = wrT T (bgT T n a) (enT T n a) := by
  unfold kdT at h ⊢
  by_cases c0 : n ≤ bgT T n a
  · rw [if_pos c0] at h; omega
  · rw [if_neg c0] at h ⊢
    by_cases c1 : isDg (T (bgT T n a)) = true
    · rw [if_pos c1] at h
      split at h <;> omega
    · rw [if_neg c1] at h ⊢
      by_cases c2 : isLt (T (bgT T n a)) = true
      · rw [if_pos c2]
      · rw [if_neg c2] at h
        split at h <;> omega
theorem took_12 (hR : RB12 x T n) {a s k : Nat} {l : List Int64} {p : Nat} (hM : MR T n x (.inl (a, p, l))) (hs : s < 7) (hs1 : 1 ≤ s) (hk : (4 ≤ kdT T n a ∧ wdT T (bgT T n a) (enT T n a) s = true) ↔ kdT T n a = k) : (kdT T n a = k ∧ ∃ y, f_X12_took x (s + 20) = some (1, y) ∧ KR12 x y ∧ TK12 y T n (enT T n a)) ∨ (kdT T n a ≠ k ∧ f_X12_took x (s + 20) = some (0, x)) := by
  obtain ⟨hT, ha, h11, hW⟩ := hM
  have h27 : 27 ≤ sTab.length := by decide +kernel
  have hw := isWord_12 hR hT ha h11 (s := s + 20) (by omega)
  rw [wd_20 hs1 hs] at hw
  unfold f_X12_took
  rw [hw, ob_s]
  by_cases c : kdT T n a = k
  · left
    have h := hk.mpr c
    rw [decide_eq_true h.1, h.2]
    obtain ⟨y, e1, k1, t1⟩ := reads_12 hR hT.2.1 (enT_le ha)
    refine ⟨c, y, ?_, k1, t1⟩
    rw [show b2i (true && true) = 1 from rfl, if_neg ne10, e1, ob_s, if_pos (by decide)]
  · right
    refine ⟨c, ?_⟩
    have h : (decide (4 ≤ kdT T n a) && wdT T (bgT T n a) (enT T n a) s) = false := by
      cases hb : (decide (4 ≤ kdT T n a) && wdT T (bgT T n a) (enT T n a) s) with
      | false => rfl
      | true =>
        rw [Bool.and_eq_true, decide_eq_true_iff] at hb
        exact absurd (hk.mp hb) c
    rw [h, show b2i false = 0 from rfl, if_pos rfl, if_pos (by decide)]
/-- the kinds of words, one by one -/
theorem kd_5 {a : Nat} : (4 ≤ kdT T n a ∧ wdT T (bgT T n a) (enT T n a) 1 = true) ↔ kdT T n a = 5 := by
  constructor
  · rintro ⟨h1, h2⟩
    rw [kd_wr h1]
    unfold wrT
    rw [if_pos h2]
  · intro h
    have h4 : 4 ≤ kdT T n a := by omega
    refine ⟨h4, ?_⟩
    rw [kd_wr h4] at h
    unfold wrT at h
    split at h
    · assumption
    · split at h
      · omega
      · split at h
        · omega
        · split at h
          · omega
          · split at h
            · omega
            · split at h <;> omega
theorem kd_6 {a : Nat} (h5 : kdT T n a ≠ 5) : (4 ≤ kdT T n a ∧ wdT T (bgT T n a) (enT T n a) 2 = true) ↔ kdT T n a = 6 := by
  have n1 : ∀ _ : 4 ≤ kdT T n a, ¬ wdT T (bgT T n a) (enT T n a) 1 = true := fun h z => h5 (kd_5.mp ⟨h, z⟩)
  constructor
  · rintro ⟨h1, h2⟩
    rw [kd_wr h1]
    unfold wrT
    rw [if_neg (n1 h1), if_pos h2]
  · intro h
    have h4 : 4 ≤ kdT T n a := by omega
    refine ⟨h4, ?_⟩
    rw [kd_wr h4] at h
    unfold wrT at h
    rw [if_neg (n1 h4)] at h
    split at h
    · assumption
    · split at h
      · omega
      · split at h
        · omega
        · split at h
          · omega
          · split at h <;> omega
theorem kd_7 {a : Nat} (h5 : kdT T n a ≠ 5) (h6 : kdT T n a ≠ 6) : (4 ≤ kdT T n a ∧ wdT T (bgT T n a) (enT T n a) 3 = true) ↔ kdT T n a = 7 := by
  have n1 : ∀ _ : 4 ≤ kdT T n a, ¬ wdT T (bgT T n a) (enT T n a) 1 = true := fun h z => h5 (kd_5.mp ⟨h, z⟩)
  have n2 : ∀ _ : 4 ≤ kdT T n a, ¬ wdT T (bgT T n a) (enT T n a) 2 = true := fun h z => h6 ((kd_6 h5).mp ⟨h, z⟩)
  constructor
  · rintro ⟨h1, h2⟩
    rw [kd_wr h1]
    unfold wrT
    rw [if_neg (n1 h1), if_neg (n2 h1), if_pos h2]
  · intro h
    have h4 : 4 ≤ kdT T n a := by omega
    refine ⟨h4, ?_⟩
    rw [kd_wr h4] at h
    unfold wrT at h
    rw [if_neg (n1 h4), if_neg (n2 h4)] at h
    split at h
    · assumption
    · split at h
      · omega
      · split at h
        · omega
        · split at h <;> omega
theorem kd_8 {a : Nat} (h5 : kdT T n a ≠ 5) (h6 : kdT T n a ≠ 6) (h7 : kdT T n a ≠ 7) : (4 ≤ kdT T n a ∧ wdT T (bgT T n a) (enT T n a) 4 = true) ↔ kdT T n a = 8 := by
  have n1 : ∀ _ : 4 ≤ kdT T n a, ¬ wdT T (bgT T n a) (enT T n a) 1 = true := fun h z => h5 (kd_5.mp ⟨h, z⟩)
  have n2 : ∀ _ : 4 ≤ kdT T n a, ¬ wdT T (bgT T n a) (enT T n a) 2 = true := fun h z => h6 ((kd_6 h5).mp ⟨h, z⟩)
  have n3 : ∀ _ : 4 ≤ kdT T n a, ¬ wdT T (bgT T n a) (enT T n a) 3 = true := fun h z => h7 ((kd_7 h5 h6).mp ⟨h, z⟩)
  constructor
  · rintro ⟨h1, h2⟩
    rw [kd_wr h1]
    unfold wrT
    rw [if_neg (n1 h1), if_neg (n2 h1), if_neg (n3 h1), if_pos h2]
  · intro h
    have h4 : 4 ≤ kdT T n a := by omega
    refine ⟨h4, ?_⟩
    rw [kd_wr h4] at h
    unfold wrT at h
    rw [if_neg (n1 h4), if_neg (n2 h4), if_neg (n3 h4)] at h
    split at h
    · assumption
    · split at h
      · omega
      · split at h <;> omega
theorem kd_9 {a : Nat} (h5 : kdT T n a ≠ 5) (h6 : kdT T n a ≠ 6) (h7 : kdT T n a ≠ 7) (h8 : kdT T n a ≠ 8) : (4 ≤ kdT T n a ∧ wdT T (bgT T n a) (enT T n a) 5 = true) ↔ kdT T n a = 9 := by
  have n1 : ∀ _ : 4 ≤ kdT T n a, ¬ wdT T (bgT T n a) (enT T n a) 1 = true := fun h z => h5 (kd_5.mp ⟨h, z⟩)
  have n2 : ∀ _ : 4 ≤ kdT T n a, ¬ wdT T (bgT T n a) (enT T n a) 2 = true := fun h z => h6 ((kd_6 h5).mp ⟨h, z⟩)
  have n3 : ∀ _ : 4 ≤ kdT T n a, ¬ wdT T (bgT T n a) (enT T n a) 3 = true := fun h z => h7 ((kd_7 h5 h6).mp ⟨h, z⟩)
  have n4 : ∀ _ : 4 ≤ kdT T n a, ¬ wdT T (bgT T n a) (enT T n a) 4 = true := fun h z => h8 ((kd_8 h5 h6 h7).mp ⟨h, z⟩)
  constructor
  · rintro ⟨h1, h2⟩
    rw [kd_wr h1]
    unfold wrT
    rw [if_neg (n1 h1), if_neg (n2 h1), if_neg (n3 h1), if_neg (n4 h1), if_pos h2]
  · intro h
    have h4 : 4 ≤ kdT T n a := by omega
    refine ⟨h4, ?_⟩
    rw [kd_wr h4] at h
    unfold wrT at h
    rw [if_neg (n1 h4), if_neg (n2 h4), if_neg (n3 h4), if_neg (n4 h4)] at h
    split at h
    · assumption
    · split at h <;> omega
theorem sLens : sLen 1 ≠ sLen 6 ∧ sLen 2 = sLen 6 ∧ sLen 3 ≠ sLen 6 ∧ sLen 4 ≠ sLen 6 ∧ sLen 5 ≠ sLen 6 ∧ sCh 2 0 ≠ sCh 6 0 ∧ 0 < sLen 6 := by decide +kernel
theorem kd_10 {a : Nat} : (4 ≤ kdT T n a ∧ wdT T (bgT T n a) (enT T n a) 6 = true) ↔ kdT T n a = 10 := by
  obtain ⟨s1, s2, s3, s4, s5, s6, s7⟩ := sLens
  constructor
  · rintro ⟨h1, h2⟩
    have hlen : sLen 6 = enT T n a - bgT T n a := by
      unfold wdT at h2
      rw [Bool.and_eq_true, decide_eq_true_iff] at h2
      exact h2.1
    have hno : ∀ s, sLen s ≠ sLen 6 → ¬ wdT T (bgT T n a) (enT T n a) s = true := fun s hs z => by
      unfold wdT at z
      rw [Bool.and_eq_true, decide_eq_true_iff] at z
      exact hs (z.1.trans hlen.symm)
    have hno2 : ¬ wdT T (bgT T n a) (enT T n a) 2 = true := fun z => by
      unfold wdT at z h2
      rw [Bool.and_eq_true, allF_iff] at z h2
      have a1 := of_decide_eq_true (z.2 0 (Nat.zero_le _) (by omega))
      have a2 := of_decide_eq_true (h2.2 0 (Nat.zero_le _) (by omega))
      exact s6 (a1.symm.trans a2)
    rw [kd_wr h1]
    unfold wrT
    rw [if_neg (hno 1 s1), if_neg hno2, if_neg (hno 3 s3), if_neg (hno 4 s4), if_neg (hno 5 s5), if_pos h2]
  · intro h
    have h4 : 4 ≤ kdT T n a := by omega
    refine ⟨h4, ?_⟩
    rw [kd_wr h4] at h
    unfold wrT at h
    split at h
    · omega
    · split at h
      · omega
      · split at h
        · omega
        · split at h
          · omega
          · split at h
            · omega
            · split at h
              · assumption
              · omega
end RRD
