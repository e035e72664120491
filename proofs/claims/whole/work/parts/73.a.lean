/-! turnings: the reference's map so far -/
/-- only the map has changed -/
def KG2 (st x : OS) : Prop := x.1 = st.1 ∧ (∀ k, k ≠ 36 → x.2.2.1 k = st.2.2.1 k) ∧ x.2.2.2 = st.2.2.2
theorem KG2.rf {st : OS} : KG2 st st := ⟨rfl, fun _ _ => rfl, rfl⟩
theorem KG2.tr {st x y : OS} (h : KG2 st x) (g : KG2 x y) : KG2 st y := ⟨g.1.trans h.1, fun k hk => (g.2.1 k hk).trans (h.2.1 k hk), g.2.2.trans h.2.2⟩
theorem KG2.oA {st x : OS} (h : KG2 st x) (f : Nat → Int32) : KG2 st (oA x 36 f) := ⟨h.1, fun k hk => by rw [oA_ne _ hk]; exact h.2.1 k hk, h.2.2⟩
theorem KG2.oJ {st x : OS} (h : KG2 st x) (k : Nat) (v : Int64) : KG2 st (oJ x k v) := h
theorem KG2.kp {st x : OS} (h : KG2 st x) : Kp st x := ⟨fun k _ => by rw [h.1], fun k hk => h.2.1 k (fun z => by rw [z] at hk; exact absurd hk (by decide)), fun k _ => by rw [h.2.2]⟩
/-- two worlds: the reference's own, and the others' lines -/
def OW (st : OS) (w v : Wd) : Prop := RWo st w.1 w.2 ∧ st.1 35 = nI v.2.length ∧ (∀ i, i < v.2.length → st.2.2.2 34 i = wl v.2 i) ∧ w.1 ≤ 16 ∧ v.1 = w.1 ∧ v.2.length = w.2.length ∧ WFw w ∧ WFw v
theorem OW.k {st x : OS} {w v : Wd} (h : OW st w v) (k : KG2 st x) : OW x w v :=
  ⟨h.1.kp k.kp, by rw [k.1]; exact h.2.1, fun i hi => by rw [k.2.2]; exact h.2.2.1 i hi, h.2.2.2⟩
/-- the map: of which points, to which -/
def PM (st : OS) (w : Wd) (D : Nat → Bool) (g : Nat → Nat) : Prop := (∀ p, p < w.1 → st.2.2.1 36 p = if D p = true then nI (g p) else -1) ∧ (∀ x, tb (st.2.1 37) x = true ↔ ∃ p, p < w.1 ∧ D p = true ∧ g p = x) ∧ (∀ p, p < w.1 → D p = true → g p < w.1) ∧ ∀ p q, p < w.1 → q < w.1 → D p = true → D q = true → g p = g q → p = q
/-- where a set goes -/
def gTo (w : Wd) (D : Nat → Bool) (g : Nat → Nat) (S : Int64) : Int64 := orT (fun p => if (D p && tb S p) = true then bit1 (g p) else 0) w.1
def gFr (w : Wd) (D : Nat → Bool) (g : Nat → Nat) (S : Int64) : Int64 := orT (fun p => if (D p && tb S (g p)) = true then bit1 p else 0) w.1
def gPt (w : Wd) (D : Nat → Bool) (S : Int64) : Int64 := orT (fun p => if (D p && tb S p) = true then bit1 p else 0) w.1
theorem tb_if {c : Bool} {k i : Nat} (hk : k < 64) : tb (if c = true then bit1 k else 0) i = (c && decide (i = k)) := by
  cases c with
  | true => rw [if_pos rfl, tb_bit1 hk]; rfl
  | false => rw [if_neg (by decide), tb_0]; rfl
section TREF
variable {st : OS} {w v : Wd} {D : Nat → Bool} {g : Nat → Nat}
theorem tb_gTo (hN : w.1 ≤ 16) (hg : ∀ p, p < w.1 → D p = true → g p < w.1) (S : Int64) (x : Nat) : tb (gTo w D g S) x = true ↔ ∃ p, p < w.1 ∧ D p = true ∧ tb S p = true ∧ g p = x := by
  unfold gTo
  rw [tb_orT]
  constructor
  · rintro ⟨p, hp, h⟩
    by_cases c : (D p && tb S p) = true
    · have c2 := c
      rw [Bool.and_eq_true] at c2
      rw [if_pos c, tb_bit1 (by have := hg p hp c2.1; omega)] at h
      exact ⟨p, hp, c2.1, c2.2, (of_decide_eq_true h).symm⟩
    · rw [if_neg c, tb_0] at h; cases h
  · rintro ⟨p, hp, h1, h2, h3⟩
    exact ⟨p, hp, by rw [if_pos (by rw [h1, h2]; rfl), tb_bit1 (by have := hg p hp h1; omega)]; exact decide_eq_true h3.symm⟩
theorem tb_gFr (hN : w.1 ≤ 16) (S : Int64) (x : Nat) : tb (gFr w D g S) x = true ↔ x < w.1 ∧ D x = true ∧ tb S (g x) = true := by
  unfold gFr
  rw [tb_orT]
  constructor
  · rintro ⟨p, hp, h⟩
    by_cases c : (D p && tb S (g p)) = true
    · have c2 := c
      rw [Bool.and_eq_true] at c2
      rw [if_pos c, tb_bit1 (by omega)] at h
      rw [of_decide_eq_true h]
      exact ⟨hp, c2⟩
    · rw [if_neg c, tb_0] at h; cases h
  · rintro ⟨hp, h1, h2⟩
    exact ⟨x, hp, by rw [if_pos (by rw [h1, h2]; rfl), tb_bit1 (by omega)]; exact decide_eq_true rfl⟩
theorem tb_gPt (hN : w.1 ≤ 16) (S : Int64) (x : Nat) : tb (gPt w D S) x = true ↔ x < w.1 ∧ D x = true ∧ tb S x = true := tb_gFr (g := fun p => p) hN S x
theorem goneTo_12 (h : RWo st w.1 w.2) (hN : w.1 ≤ 16) (hM : PM st w D g) (S : Int64) : f_X12_goneTo st S = some (gTo w D g S) := by
  have key := lpv_for (f := f_X12_goneTo_5 st S) (fun p => (orT (fun p => if (D p && tb S p) = true then bit1 (g p) else 0) p, nI p)) w.1 (r := gTo w D g S) (fun p hp => ?_) ?_ 0 (Nat.zero_le _)
  · unfold f_X12_goneTo
    rw [show ((0 : Int64), (0 : Int32)) = (orT (fun p => if (D p && tb S p) = true then bit1 (g p) else 0) 0, nI 0) from rfl, key, ob_s]
  · unfold f_X12_goneTo_5
    dsimp only
    rw [h.1, if_neg (nI_ge hp (by omega)), if_pos (inb_t (by omega) (by omega)), nI_clamp (by omega), hM.1 p hp, has_12 (by omega), ob_s]
    dsimp only [bnd, orT]
    rw [nI_1]
    cases hD : D p with
    | false => rw [if_pos (by rw [if_neg (by decide)]), Bool.false_and, if_neg (by decide), or0]
    | true =>
      have hgp := hM.2.2.1 p hp hD
      rw [if_pos rfl, if_neg (nI_m1 (by omega)), Bool.true_and]
      cases hb : tb S p with
      | false => rw [if_pos b2f, if_neg (by decide), or0]
      | true => rw [if_neg b2t, if_pos rfl, bit_12 (by omega), ob_s]
  · unfold f_X12_goneTo_5
    dsimp only
    rw [h.1, if_pos (nI_le (Nat.le_refl _) (by omega))]
    rfl
theorem many_12 {na : Nat} (f : Nat → Int64) {n : Nat} (hn : n ≤ na) (hna : na ≤ 64) (S : Int64) : f_X12_many na f (nI n) S = some (nI (cnt (fun k => decide (f k = S)) n)) := by
  have key := lpv_for (f := f_X12_many_6 na f (nI n) S) (fun k => (nI (cnt (fun k => decide (f k = S)) k), nI k)) n (r := nI (cnt (fun k => decide (f k = S)) n)) (fun k hk => ?_) ?_ 0 (Nat.zero_le _)
  · unfold f_X12_many
    rw [show ((0 : Int32), (0 : Int32)) = (nI (cnt (fun k => decide (f k = S)) 0), nI 0) from rfl, key, ob_s]
  · unfold f_X12_many_6
    dsimp only
    rw [if_neg (nI_ge hk (by omega)), if_pos (inb_t (by omega) (by omega)), nI_clamp (by omega)]
    dsimp only [bnd]
    rw [nI_1, nI_1, cnt_s]
    by_cases c : f k = S
    · rw [if_pos ((lg_cmp_eq _ _).mpr c), decide_eq_true c, if_pos rfl]
    · rw [if_neg (fun z => c ((lg_cmp_eq _ _).mp z)), decide_eq_false c, if_neg (by decide), Int32.add_zero]
      rfl
  · unfold f_X12_many_6
    dsimp only
    rw [if_pos (nI_le (Nat.le_refl _) (by omega))]
theorem having_12 {na : Nat} (f : Nat → Int64) {n : Nat} (hn : n ≤ na) (hna : na ≤ 64) (S : Int64) (z : Nat) (hz : z ≤ 64) : f_X12_having na f (nI n) S (nI z) = some (nI (cnt (fun k => decide (S &&& (f k ^^^ (-1)) = 0) && decide (pcn (f k) = z)) n)) := by
  have key := lpv_for (f := f_X12_having_6 na f (nI n) S (nI z)) (fun k => (nI (cnt (fun k => decide (S &&& (f k ^^^ (-1)) = 0) && decide (pcn (f k) = z)) k), nI k)) n (r := nI (cnt (fun k => decide (S &&& (f k ^^^ (-1)) = 0) && decide (pcn (f k) = z)) n)) (fun k hk => ?_) ?_ 0 (Nat.zero_le _)
  · unfold f_X12_having
    rw [show ((0 : Int32), (0 : Int32)) = (nI (cnt (fun k => decide (S &&& (f k ^^^ (-1)) = 0) && decide (pcn (f k) = z)) 0), nI 0) from rfl, key, ob_s]
  · have hp := pcn_le (f k)
    unfold f_X12_having_6
    dsimp only
    rw [if_neg (nI_ge hk (by omega)), if_pos (inb_t (by omega) (by omega)), nI_clamp (by omega), ones_12, ob_s]
    dsimp only [bnd]
    rw [nI_1, nI_1, cnt_s]
    by_cases c : S &&& (f k ^^^ (-1)) = 0
    · rw [if_pos ((lg_cmp_eq _ _).mpr c), decide_eq_true c]
      by_cases d : pcn (f k) = z
      · rw [if_pos (congrArg nI d), decide_eq_true d, Bool.true_and, if_pos rfl]
      · rw [if_neg (fun y => d ((nI_eq (by omega) (by omega)).mp y)), decide_eq_false d, Bool.true_and, if_neg (by decide), Int32.add_zero]
        rfl
    · rw [if_neg (fun y => c ((lg_cmp_eq _ _).mp y)), decide_eq_false c, Int32.add_zero, Bool.false_and, if_neg (by decide)]
      rfl
  · unfold f_X12_having_6
    dsimp only
    rw [if_pos (nI_le (Nat.le_refl _) (by omega))]
theorem throughOther_12 (hO : OW st w v) {p : Nat} (hp : p < 64) : f_X12_throughOther st (nI p) = some (nI (pcn (thrF v.2 p))) := by
  obtain ⟨h1, h2, h3, h4, h5, h6, h7, h8⟩ := hO
  have hl := h1.2.2.2.1
  have e : pcn (thrF v.2 p) = cnt (fun i => tb (wl v.2 i) p) v.2.length := by
    rw [pcn_N (N := v.2.length) (by omega) (fun i z => ((tb_thr (by omega)).mp z).1)]
    exact cnt_cong (fun i hi => Bool.eq_iff_iff.mpr ((tb_thr (by omega)).trans ⟨fun z => z.2, fun z => ⟨hi, z⟩⟩))
  have key := lpv_for (f := f_X12_throughOther_4 st (nI p)) (fun k => (nI (cnt (fun i => tb (wl v.2 i) p) k), nI k)) v.2.length (r := nI (cnt (fun i => tb (wl v.2 i) p) v.2.length)) (fun k hk => ?_) ?_ 0 (Nat.zero_le _)
  · unfold f_X12_throughOther
    rw [show ((0 : Int32), (0 : Int32)) = (nI (cnt (fun i => tb (wl v.2 i) p) 0), nI 0) from rfl, key, ob_s, e]
  · unfold f_X12_throughOther_4
    dsimp only
    rw [h2, if_neg (nI_ge hk (by omega)), if_pos (inb_t (by omega) (by omega)), nI_clamp (by omega), h3 k hk, has_12 hp, ob_s]
    dsimp only [bnd]
    rw [nI_1, nI_1, cnt_s]
    cases hb : tb (wl v.2 k) p with
    | false => rw [if_pos b2f, if_neg (by decide), Int32.add_zero]; rfl
    | true => rw [if_neg b2t, if_pos rfl]
  · unfold f_X12_throughOther_4
    dsimp only
    rw [h2, if_pos (nI_le (Nat.le_refl _) (by omega))]
theorem isFrom_12 (hO : OW st w v) (hM : PM st w D g) (S : Int64) : f_X12_isFrom st S = some (if ∃ k, k < w.2.length ∧ wl w.2 k = gFr w D g S then 1 else 0) := by
  obtain ⟨h1, h2, h3, h4, h5, h6, h7, h8⟩ := hO
  have hl := h1.2.2.2.1
  have key := lpv_for (f := f_X12_isFrom_5 st S) (fun p => (orT (fun p => if (D p && tb S (g p)) = true then bit1 p else 0) p, nI p)) w.1 (r := gFr w D g S) (fun p hp => ?_) ?_ 0 (Nat.zero_le _)
  · unfold f_X12_isFrom
    rw [show ((0 : Int64), (0 : Int32)) = (orT (fun p => if (D p && tb S (g p)) = true then bit1 p else 0) 0, nI 0) from rfl, key, ob_s, h1.2.1, many_12 _ hl (Nat.le_refl _), ob_s]
    have hcl := cnt_le (fun k => decide (st.2.2.2 3 k = gFr w D g S)) w.2.length
    by_cases c : ∃ k, k < w.2.length ∧ wl w.2 k = gFr w D g S
    · rw [if_pos c]
      obtain ⟨k, hk, e⟩ := c
      have : cnt (fun k => decide (st.2.2.2 3 k = gFr w D g S)) w.2.length ≠ 0 := fun z => by
        have := cnt_0.mp z k hk
        rw [h1.2.2.2.2 k hk, decide_eq_true e] at this
        cases this
      rw [if_neg (show ¬ nI (cnt (fun k => decide (st.2.2.2 3 k = gFr w D g S)) w.2.length) ≤ (0 : Int32) from nI_ge (a := 0) (by omega) (by omega))]
    · rw [if_neg c]
      have : cnt (fun k => decide (st.2.2.2 3 k = gFr w D g S)) w.2.length = 0 := cnt_0.mpr (fun k hk => by
        rw [h1.2.2.2.2 k hk]
        exact decide_eq_false (fun z => c ⟨k, hk, z⟩))
      rw [this, if_pos (by decide)]
  · unfold f_X12_isFrom_5
    dsimp only
    rw [h1.1, if_neg (nI_ge hp (by omega)), if_pos (inb_t (by omega) (by omega)), nI_clamp (by omega), hM.1 p hp]
    dsimp only [bnd, orT]
    rw [nI_1]
    cases hD : D p with
    | false => rw [if_pos (by rw [if_neg (by decide)]), Bool.false_and, if_neg (by decide), or0]
    | true =>
      have hgp := hM.2.2.1 p hp hD
      rw [if_pos rfl, if_neg (nI_m1 (by omega)), Bool.true_and, has_12 (by omega), ob_s]
      cases hb : tb S (g p) with
      | false => rw [if_pos b2f, if_neg (by decide), or0]
      | true => rw [if_neg b2t, if_pos rfl, bit_12 (by omega), ob_s]
  · unfold f_X12_isFrom_5
    dsimp only
    rw [h1.1, if_pos (nI_le (Nat.le_refl _) (by omega))]
    rfl
/-- a way that goes on from the map -/
def EXT (w v : Wd) (D : Nat → Bool) (g : Nat → Nat) (π : Nat → Nat) : Prop := ISO w v π ∧ ∀ p, p < w.1 → D p = true → π p = g p
theorem sub_0 {S T : Int64} : S &&& (T ^^^ (-1)) = 0 ↔ ∀ i, tb S i = true → tb T i = true := by
  constructor
  · intro h i hi
    have := tb_dif S T i
    rw [h, tb_0, hi] at this
    cases hb : tb T i with
    | true => rfl
    | false => rw [hb] at this; cases this
  · intro h
    refine tb_ext (fun i _ => ?_)
    rw [tb_dif, tb_0]
    cases hb : tb S i with
    | false => rfl
    | true => rw [h i hb]; rfl
theorem line_pcn {π σ : Nat → Nat} (hO : OW st w v) (hI : IS2 w v π σ) {k : Nat} (hk : k < w.2.length) : pcn (wl w.2 k) = pcn (wl v.2 (σ k)) := by
  obtain ⟨h1, h2, h3, h4, h5, h6, h7, h8⟩ := hO
  have hσ := hI.2.1.1 k hk
  exact pcn_bij (N := w.1) (by omega) hI.1 (fun i z => h7.pt (by omega) hk z) (fun i z => by rw [← h5]; exact h8.pt (by omega) (by omega) z) (fun i hi => (hI.2.2 i k hi hk).symm)
theorem isWell_12 (hO : OW st w v) (hM : PM st w D g) {p : Nat} (hp : p < w.1) (hDp : D p = true) : ∃ c, f_X12_isWell st (nI p) = some c ∧ (c = 0 ∨ c = 1) ∧ ∀ π, EXT w v D g π → c = 1 := by
  obtain ⟨h1, h2, h3, h4, h5, h6, h7, h8⟩ := id hO
  have hl := h1.2.2.2.1
  have hgp := hM.2.2.1 p hp hDp
  -- the first loop
  have kA := lpv_inv (f := f_X12_isWell_2 st (nI p)) (fun i z => z = nI i) w.2.length (fun r => (r = 1 ∨ r = 0) ∧ ∀ π, EXT w v D g π → r = 1) (fun i z hi hI => ?_) (fun z hI => ?_) 0 0 (Nat.zero_le _) rfl
  · have kB := lpv_inv (f := f_X12_isWell_135 st (nI p)) (fun i z => z = nI i) v.2.length (fun r => (r = 1 ∨ r = 0) ∧ ∀ π, EXT w v D g π → r = 1) (fun i z hi hI => ?_) (fun z hI => ?_) 0 0 (Nat.zero_le _) rfl
    · obtain ⟨ra, a1, a2, a3⟩ := kA
      obtain ⟨rb, b1, b2, b3⟩ := kB
      have hc : ∀ π, EXT w v D g π → pcn (thrF w.2 p) = pcn (thrF v.2 (g p)) := fun π ⟨⟨σ, i1⟩, i2⟩ => by
        have e := i2 p hp hDp
        rw [← e]
        exact pcn_bij (N := w.2.length) (by omega) i1.2.1 (fun i z => ((tb_thr (by omega)).mp z).1) (fun i z => by rw [← h6]; exact ((tb_thr (by omega)).mp z).1) (fun i hi => thr_iso (by omega) h6 i1 hp hi)
      unfold f_X12_isWell
      rw [a1, ob_s]
      rcases a2 with a2 | a2
      · rw [a2, if_neg (by decide), b1, ob_s]
        rcases b2 with b2 | b2
        · have e1 := pcn_le (thrF w.2 p)
          have e2 := pcn_le (thrF v.2 (g p))
          rw [b2, if_neg (by decide), throughOf_12 h1 (by omega), ob_s, ones_12, ob_s, if_pos (inb_t (by omega) (by omega)), nI_clamp (by omega), hM.1 p hp, if_pos hDp, throughOther_12 hO (by omega), ob_s]
          by_cases q : pcn (thrF w.2 p) = pcn (thrF v.2 (g p))
          · rw [if_pos (congrArg nI q)]
            exact ⟨1, rfl, Or.inr rfl, fun _ _ => rfl⟩
          · rw [if_neg (fun z => q ((nI_eq (by omega) (by omega)).mp z))]
            exact ⟨0, rfl, Or.inl rfl, fun π hπ => absurd (hc π hπ) q⟩
        · rw [b2, if_pos rfl]
          exact ⟨0, rfl, Or.inl rfl, fun π hπ => by have := b3 π hπ; omega⟩
      · rw [a2, if_pos rfl]
        exact ⟨0, rfl, Or.inl rfl, fun π hπ => by have := a3 π hπ; omega⟩
    · subst hI
      have hst : f_X12_isWell_135 st (nI p) (nI i) = if tb (wl v.2 i) (g p) = true then (if wl v.2 i &&& (st.2.1 37 ^^^ (-1)) = 0 then (if ∃ k, k < w.2.length ∧ wl w.2 k = gFr w D g (wl v.2 i) then some (.inl (nI (i + 1))) else some (.inr 0)) else some (.inl (nI (i + 1)))) else some (.inl (nI (i + 1))) := by
        unfold f_X12_isWell_135
        rw [h2, if_neg (nI_ge hi (by omega)), if_pos (inb_t (by omega) (by omega)), if_pos (inb_t (by omega) (by omega)), nI_clamp (by omega), nI_clamp (by omega), h3 i hi, hM.1 p hp, if_pos hDp, has_12 (by omega), ob_s]
        dsimp only [bnd]
        rw [nI_1]
        cases hb : tb (wl v.2 i) (g p) with
        | false => rw [if_pos b2f, if_neg (by decide)]
        | true =>
          rw [if_neg b2t, if_pos rfl]
          by_cases c : wl v.2 i &&& (st.2.1 37 ^^^ (-1)) = 0
          · rw [if_pos ((lg_cmp_eq _ _).mpr c), if_pos c, isFrom_12 hO hM, ob_s]
            by_cases d : ∃ k, k < w.2.length ∧ wl w.2 k = gFr w D g (wl v.2 i)
            · rw [if_pos d, if_neg (by decide), if_pos d]
            · rw [if_neg d, if_pos rfl, if_neg d]
          · rw [if_neg (fun z => c ((lg_cmp_eq _ _).mp z)), if_neg c]
      rw [hst]
      by_cases a : tb (wl v.2 i) (g p) = true
      · rw [if_pos a]
        by_cases b : wl v.2 i &&& (st.2.1 37 ^^^ (-1)) = 0
        · rw [if_pos b]
          by_cases c : ∃ k, k < w.2.length ∧ wl w.2 k = gFr w D g (wl v.2 i)
          · rw [if_pos c]; exact Or.inl ⟨_, rfl, rfl⟩
          · rw [if_neg c]
            refine Or.inr ⟨_, rfl, Or.inr rfl, fun π ⟨⟨σ, i1⟩, i2⟩ => absurd ?_ c⟩
            obtain ⟨k, k1, k2⟩ := i1.2.1.onto (show i < w.2.length by omega)
            refine ⟨k, k1, tb_ext (fun x _ => Bool.eq_iff_iff.mpr ?_)⟩
            rw [tb_gFr h4]
            have b' := sub_0.mp b
            constructor
            · intro hx
              have hxN := h7.pt (by omega) k1 hx
              have e1 := i1.2.2 x k hxN k1
              rw [hx, k2] at e1
              obtain ⟨q, q1, q2, q3⟩ := (hM.2.1 _).mp (b' _ e1)
              have : q = x := i1.1.2 q x q1 hxN (by rw [i2 q q1 q2, q3])
              subst this
              exact ⟨q1, q2, by rw [q3]; exact e1⟩
            · rintro ⟨x1, x2, x3⟩
              rw [← i2 x x1 x2, ← k2, i1.2.2 x k x1 k1] at x3
              exact x3
        · rw [if_neg b]; exact Or.inl ⟨_, rfl, rfl⟩
      · rw [if_neg a]; exact Or.inl ⟨_, rfl, rfl⟩
    · subst hI
      refine ⟨1, ?_, Or.inl rfl, fun _ _ => rfl⟩
      unfold f_X12_isWell_135
      rw [h2, if_pos (nI_le (Nat.le_refl _) (by omega))]
  · subst hI
    have hpart : lpv (f_X12_isWell_31 st (nI p) (nI i)) (0, 0) = some (gPt w D (wl w.2 i)) := by
      have key := lpv_for (f := f_X12_isWell_31 st (nI p) (nI i)) (fun q => (orT (fun q => if (D q && tb (wl w.2 i) q) = true then bit1 q else 0) q, nI q)) w.1 (r := gPt w D (wl w.2 i)) (fun q hq => ?_) ?_ 0 (Nat.zero_le _)
      · exact key
      · unfold f_X12_isWell_31
        dsimp only
        rw [h1.1, if_neg (nI_ge hq (by omega)), if_pos (inb_t (by omega) (by omega)), nI_clamp (by omega), nI_clamp (by omega), hM.1 q hq, if_pos (inb_t (by omega) (by omega)), h1.2.2.2.2 i hi, has_12 (by omega), ob_s]
        dsimp only [bnd, orT]
        rw [nI_1]
        cases hD : D q with
        | false => rw [if_pos (by rw [if_neg (by decide)]), Bool.false_and, if_neg (by decide), or0]
        | true =>
          have hgq := hM.2.2.1 q hq hD
          rw [if_pos rfl, if_neg (nI_m1 (by omega)), Bool.true_and]
          cases hb : tb (wl w.2 i) q with
          | false => rw [if_pos b2f, if_neg (by decide), or0]
          | true => rw [if_neg b2t, if_pos rfl, bit_12 (by omega), ob_s]
      · unfold f_X12_isWell_31
        dsimp only
        rw [h1.1, if_pos (nI_le (Nat.le_refl _) (by omega))]
        rfl
    have hp64 := pcn_le (wl w.2 i)
    have hst : f_X12_isWell_2 st (nI p) (nI i) = if tb (wl w.2 i) p = true then (if cnt (fun k => decide (gPt w D (wl w.2 i) &&& (wl w.2 k ^^^ (-1)) = 0) && decide (pcn (wl w.2 k) = pcn (wl w.2 i))) w.2.length = cnt (fun k => decide (gTo w D g (gPt w D (wl w.2 i)) &&& (wl v.2 k ^^^ (-1)) = 0) && decide (pcn (wl v.2 k) = pcn (wl w.2 i))) v.2.length then some (.inl (nI (i + 1))) else some (.inr 0)) else some (.inl (nI (i + 1))) := by
      unfold f_X12_isWell_2
      rw [h1.2.1, if_neg (nI_ge hi (by omega)), if_pos (inb_t (by omega) (by omega)), nI_clamp (by omega), h1.2.2.2.2 i hi, has_12 (by omega), ob_s]
      dsimp only [bnd]
      rw [nI_1]
      cases hb : tb (wl w.2 i) p with
      | false => rw [if_pos b2f, if_neg (by decide)]
      | true =>
        rw [if_neg b2t, if_pos rfl, hpart, ob_s, ones_12, ob_s, having_12 _ hl (Nat.le_refl _) _ _ hp64, ob_s, goneTo_12 h1 h4 hM, ob_s, h2, having_12 _ (by omega) (Nat.le_refl _) _ _ hp64, ob_s]
        rw [cnt_cong (q := fun k => decide (gPt w D (wl w.2 i) &&& (wl w.2 k ^^^ (-1)) = 0) && decide (pcn (wl w.2 k) = pcn (wl w.2 i))) (fun k hk => by rw [h1.2.2.2.2 k hk]), cnt_cong (p := fun k => decide (gTo w D g (gPt w D (wl w.2 i)) &&& (st.2.2.2 34 k ^^^ (-1)) = 0) && decide (pcn (st.2.2.2 34 k) = pcn (wl w.2 i))) (q := fun k => decide (gTo w D g (gPt w D (wl w.2 i)) &&& (wl v.2 k ^^^ (-1)) = 0) && decide (pcn (wl v.2 k) = pcn (wl w.2 i))) (fun k hk => by rw [h3 k hk])]
        have e1 := cnt_le (fun k => decide (gPt w D (wl w.2 i) &&& (wl w.2 k ^^^ (-1)) = 0) && decide (pcn (wl w.2 k) = pcn (wl w.2 i))) w.2.length
        have e2 := cnt_le (fun k => decide (gTo w D g (gPt w D (wl w.2 i)) &&& (wl v.2 k ^^^ (-1)) = 0) && decide (pcn (wl v.2 k) = pcn (wl w.2 i))) v.2.length
        by_cases c : cnt (fun k => decide (gPt w D (wl w.2 i) &&& (wl w.2 k ^^^ (-1)) = 0) && decide (pcn (wl w.2 k) = pcn (wl w.2 i))) w.2.length = cnt (fun k => decide (gTo w D g (gPt w D (wl w.2 i)) &&& (wl v.2 k ^^^ (-1)) = 0) && decide (pcn (wl v.2 k) = pcn (wl w.2 i))) v.2.length
        · rw [if_pos (congrArg nI c), if_pos c]
        · rw [if_neg (fun z => c ((nI_eq (by omega) (by omega)).mp z)), if_neg c]
    rw [hst]
    by_cases a : tb (wl w.2 i) p = true
    · rw [if_pos a]
      by_cases c : cnt (fun k => decide (gPt w D (wl w.2 i) &&& (wl w.2 k ^^^ (-1)) = 0) && decide (pcn (wl w.2 k) = pcn (wl w.2 i))) w.2.length = cnt (fun k => decide (gTo w D g (gPt w D (wl w.2 i)) &&& (wl v.2 k ^^^ (-1)) = 0) && decide (pcn (wl v.2 k) = pcn (wl w.2 i))) v.2.length
      · rw [if_pos c]; exact Or.inl ⟨_, rfl, rfl⟩
      · rw [if_neg c]
        refine Or.inr ⟨_, rfl, Or.inr rfl, fun π ⟨⟨σ, i1⟩, i2⟩ => absurd ?_ c⟩
        rw [h6]
        refine cnt_bij i1.2.1 (fun k hk => ?_)
        rw [line_pcn hO i1 hk]
        congr 1
        refine Bool.eq_iff_iff.mpr ?_
        rw [decide_eq_true_iff, decide_eq_true_iff, sub_0, sub_0]
        constructor
        · intro z x hx
          obtain ⟨q, q1, q2, q3, q4⟩ := (tb_gTo h4 hM.2.2.1 _ x).mp hx
          rw [← q4, ← i2 q q1 q2, i1.2.2 q k q1 hk]
          exact z q q3
        · intro z x hx
          obtain ⟨x1, x2, x3⟩ := (tb_gPt h4 _ x).mp hx
          have := z (g x) ((tb_gTo h4 hM.2.2.1 _ _).mpr ⟨x, x1, x2, hx, rfl⟩)
          rw [← i2 x x1 x2, i1.2.2 x k x1 hk] at this
          exact this
    · rw [if_neg a]; exact Or.inl ⟨_, rfl, rfl⟩
  · subst hI
    refine ⟨1, ?_, Or.inl rfl, fun _ _ => rfl⟩
    unfold f_X12_isWell_2
    rw [h1.2.1, if_pos (nI_le (Nat.le_refl _) (by omega))]
end TREF
