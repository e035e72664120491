/-! questions: rank, the class over 3, 5, 7 -/
theorem i64r (k i : Nat) : nI k * (64 : Int32) + nI i = nI (64 * k + i) := by rw [i64, pk_mul, nI_add, Nat.mul_comm]
theorem fmod_c : ∀ p, p ∈ [2, 3, 5, 7] → ∀ a, a < p → ∀ x, x < p → ∀ f, f < p → ∀ y, y < p → f_J9_floorMod_7cf53 (nI a * nI x - nI f * nI y) (nI p) = some (nI ((a * x + (p - f) * y) % p)) := by decide +kernel
def swU (U : Nat → Nat → Nat) (r l : Nat) (o i : Nat) : Nat := if o = r then U l i else if o = l then U r i else U o i
def clU (p m : Nat) (U : Nat → Nat → Nat) (r k : Nat) (o j : Nat) : Nat := if r < o ∧ o < m ∧ k ≤ j ∧ U o k ≠ 0 then (U r k * U o j + (p - U o k) * U r j) % p else U o j
section RKC
variable {stn : OS} {w : Wd} {p : Nat}
theorem ck_fill (hw : CW stn w) (hp : 2 ≤ p) (b1 : Int32) (y0 : OS) : ∃ x, lpv (f_X4_rankOver_13 stn b1) (y0, 0) = some x ∧ TB (x.2.2.1 0) 64 64 p (T0 w) := by
  have key := lpv_inv (f := f_X4_rankOver_13 stn b1) (fun l z => z.2 = nI l ∧ ∀ a i, a < l → i < 64 → z.1.2.2.1 0 (64 * a + i) = nI (T0 w a i)) 64 (fun x => ∀ a i, a < 64 → i < 64 → x.2.2.1 0 (64 * a + i) = nI (T0 w a i)) (fun l z hl hI => Or.inl ?_) (fun z hI => ?_) 0 (y0, 0) (Nat.zero_le _) ⟨rfl, fun a i ha => by omega⟩
  · obtain ⟨x, e, g⟩ := key
    exact ⟨x, e, fun a i ha hi => ⟨g a i ha hi, by unfold T0; split <;> omega⟩⟩
  · obtain ⟨x, b⟩ := z
    obtain ⟨e1, e3⟩ := hI
    dsimp only at e1 e3
    subst e1
    have key2 := lpv_inv (f := f_X4_rankOver_22 stn b1 (nI l)) (fun j z => z.2 = nI j ∧ ∀ a i, (a < l ∨ a = l ∧ i < j) → i < 64 → z.1.2.2.1 0 (64 * a + i) = nI (T0 w a i)) 64 (fun x => ∀ a i, a < l + 1 → i < 64 → x.2.2.1 0 (64 * a + i) = nI (T0 w a i)) (fun j z hj hI => Or.inl ?_) (fun z hI => ?_) 0 (x, 0) (Nat.zero_le _) ⟨rfl, fun a i ha hi => e3 a i (by omega) hi⟩
    · obtain ⟨y, f1, f3⟩ := key2
      refine ⟨(y, nI (l + 1)), ?_, rfl, f3⟩
      unfold f_X4_rankOver_13
      dsimp only
      rw [if_neg (show ¬ (64 : Int32) ≤ nI l from nI_ge (b := 64) hl (by decide)), f1, ob_s]
      simp only [bnd, nI_1]
    · obtain ⟨y, b⟩ := z
      obtain ⟨g1, g3⟩ := hI
      dsimp only at g1 g3
      subst g1
      have hst : f_X4_rankOver_22 stn b1 (nI l) (y, nI j) = some (.inl (oA y 0 (upd (y.2.2.1 0) (64 * l + j) (nI (T0 w l j))), nI (j + 1))) := by
        unfold f_X4_rankOver_22
        dsimp only
        rw [if_neg (show ¬ (64 : Int32) ≤ nI j from nI_ge (b := 64) hj (by decide)), setAt_any hw.1 (by omega), ob_s, has_10 hj, ob_s, i64r, nI_clamp (by omega)]
        simp only [bnd, nI_1]
        unfold T0
        cases tb (wl w.2 l) j with
        | true => rw [if_neg b2t, if_pos rfl, if_pos (inb_t (by omega) (by omega))]; rfl
        | false => rw [if_pos b2f, if_pos (inb_t (by omega) (by omega))]; rfl
      refine ⟨_, hst, rfl, fun a i ha hi => ?_⟩
      dsimp only
      rw [oA_self]
      unfold upd
      by_cases q : 64 * a + i = 64 * l + j
      · rw [if_pos q]
        have h1 : a = l := by omega
        have h2 : i = j := by omega
        rw [h1, h2]
      · rw [if_neg q]
        exact g3 a i (by omega) hi
    · obtain ⟨y, b⟩ := z
      obtain ⟨g1, g3⟩ := hI
      dsimp only at g1 g3
      subst g1
      refine ⟨y, ?_, fun a i ha hi => g3 a i (by omega) hi⟩
      unfold f_X4_rankOver_22
      dsimp only
      rw [if_pos (show (64 : Int32) ≤ nI 64 from nI_le (a := 64) (by omega) (by decide))]
  · obtain ⟨x, b⟩ := z
    obtain ⟨e1, e3⟩ := hI
    dsimp only at e1 e3
    subst e1
    refine ⟨x, ?_, e3⟩
    unfold f_X4_rankOver_13
    dsimp only
    rw [if_pos (show (64 : Int32) ≤ nI 64 from nI_le (a := 64) (by omega) (by decide))]
theorem ck_find (hw : CW stn w) {y : OS} {U : Nat → Nat → Nat} (hp : p ≤ 7) (hU : TB (y.2.2.1 0) 64 64 p U) {r k : Nat} (hr : r ≤ w.2.length) (hk : k < 64) : ∃ l f, lpv (f_X4_bringUp_3 y stn (nI r) (nI k)) (nI r) = some (f, nI l) ∧ r ≤ l ∧ l ≤ w.2.length ∧ (∀ j, r ≤ j → j < l → U j k = 0) ∧ (l < w.2.length → U l k ≠ 0 ∧ f = 0) ∧ (l = w.2.length → f = 1) := by
  have hm := hw.1.2.2.2.1
  have key := lpv_inv (f := f_X4_bringUp_3 y stn (nI r) (nI k)) (fun i b => b = nI i ∧ r ≤ i ∧ ∀ j, r ≤ j → j < i → U j k = 0) w.2.length (fun v => ∃ l, v.2 = nI l ∧ r ≤ l ∧ l ≤ w.2.length ∧ (∀ j, r ≤ j → j < l → U j k = 0) ∧ (l < w.2.length → U l k ≠ 0 ∧ v.1 = 0) ∧ (l = w.2.length → v.1 = 1)) (fun i b hi hI => ?_) (fun b hI => ?_) r (nI r) hr ⟨rfl, Nat.le_refl _, fun j a b => by omega⟩
  · obtain ⟨⟨f, v⟩, e, l, h1, g⟩ := key
    have h1 : v = nI l := h1
    subst h1
    exact ⟨l, f, e, g⟩
  · obtain ⟨e1, e2, e3⟩ := hI
    subst e1
    have hst : f_X4_bringUp_3 y stn (nI r) (nI k) (nI i) = if U i k = 0 then some (.inl (nI (i + 1))) else some (.inr (0, nI i)) := by
      unfold f_X4_bringUp_3
      obtain ⟨g1, g2⟩ := hU i k (by omega) hk
      rw [hw.1.2.1, if_neg (nI_ge hi (by omega)), if_neg (show ¬ (64 : Int32) ≤ nI i from nI_ge (b := 64) (by omega) (by decide)), i64r, if_pos (inb_t (by omega) (by omega)), nI_clamp (by omega), g1]
      simp only [nI0 (show U i k < 2 ^ 31 by omega), bnd, nI_1]
    by_cases z : U i k = 0
    · left
      rw [if_pos z] at hst
      exact ⟨_, hst, rfl, by omega, fun j a b => by
        rcases Nat.lt_or_ge j i with q | q
        · exact e3 j a q
        · rw [show j = i by omega]; exact z⟩
    · right
      rw [if_neg z] at hst
      exact ⟨_, hst, i, rfl, e2, by omega, e3, fun _ => ⟨z, rfl⟩, fun q => by omega⟩
  · obtain ⟨e1, e2, e3⟩ := hI
    subst e1
    refine ⟨(1, nI w.2.length), ?_, w.2.length, rfl, e2, Nat.le_refl _, e3, fun z => by omega, fun _ => rfl⟩
    unfold f_X4_bringUp_3
    rw [hw.1.2.1, if_pos (nI_le (Nat.le_refl _) (by omega))]
theorem ck_swap {y : OS} {U : Nat → Nat → Nat} (hU : TB (y.2.2.1 0) 64 64 p U) {r l : Nat} (hr : r < 64) (hl : l < 64) : ∃ x, lpv (f_X4_bringUp_37 stn (nI r) (nI l)) (y, 0) = some x ∧ TB (x.2.2.1 0) 64 64 p (swU U r l) := by
  refine lpv_inv (f := f_X4_bringUp_37 stn (nI r) (nI l)) (fun i z => z.2 = nI i ∧ TB (z.1.2.2.1 0) 64 64 p (fun o c => if c < i then swU U r l o c else U o c)) 64 (fun x => TB (x.2.2.1 0) 64 64 p (swU U r l)) (fun i z hi hI => Or.inl ?_) (fun z hI => ?_) 0 (y, 0) (Nat.zero_le _) ⟨rfl, fun a c ha hc => by dsimp only; rw [if_neg (by omega)]; exact hU a c ha hc⟩
  · obtain ⟨x, b⟩ := z
    obtain ⟨e1, e3⟩ := hI
    dsimp only at e1 e3
    subst e1
    obtain ⟨g1, g2⟩ := e3 l i hl hi
    obtain ⟨g3, g4⟩ := e3 r i hr hi
    simp only [Nat.lt_irrefl, if_false] at g1 g2 g3 g4
    refine ⟨(oA (oA x 0 (upd (x.2.2.1 0) (64 * l + i) (nI (U r i)))) 0 (upd (upd (x.2.2.1 0) (64 * l + i) (nI (U r i))) (64 * r + i) (nI (U l i))), nI (i + 1)), ?_, rfl, fun a c ha hc => ?_⟩
    · unfold f_X4_bringUp_37
      dsimp only
      rw [if_neg (show ¬ (64 : Int32) ≤ nI i from nI_ge (b := 64) hi (by decide)), i64r, i64r, if_pos (inb_t (by omega) (by omega)), nI_clamp (by omega), nI_clamp (by omega), g1, g3]
      dsimp only [bnd]
      rw [if_pos (inb_t (by omega) (by omega)), oA_self, nI_1]
    · dsimp only
      rw [oA_self]
      unfold upd
      obtain ⟨f1, f2⟩ := e3 a c ha hc
      dsimp only at f1 f2
      by_cases q1 : 64 * a + c = 64 * r + i
      · have h1 : a = r := by omega
        have h2 : c = i := by omega
        rw [if_pos q1, h1, h2, if_pos (show i < i + 1 by omega)]
        unfold swU
        rw [if_pos rfl]
        exact ⟨rfl, g2⟩
      · rw [if_neg q1]
        by_cases q2 : 64 * a + c = 64 * l + i
        · have h1 : a = l := by omega
          have h2 : c = i := by omega
          rw [if_pos q2, h1, h2, if_pos (show i < i + 1 by omega)]
          unfold swU
          rw [if_neg (show ¬ l = r by omega), if_pos rfl]
          exact ⟨rfl, g4⟩
        · rw [if_neg q2]
          by_cases q3 : c = i
          · rw [if_neg (show ¬ c < i by omega)] at f1 f2
            rw [if_pos (show c < i + 1 by omega)]
            unfold swU
            rw [if_neg (show ¬ a = r by omega), if_neg (show ¬ a = l by omega)]
            exact ⟨f1, f2⟩
          · by_cases q4 : c < i
            · rw [if_pos q4] at f1 f2
              rw [if_pos (show c < i + 1 by omega)]
              exact ⟨f1, f2⟩
            · rw [if_neg q4] at f1 f2
              rw [if_neg (show ¬ c < i + 1 by omega)]
              exact ⟨f1, f2⟩
  · obtain ⟨x, b⟩ := z
    obtain ⟨e1, e3⟩ := hI
    dsimp only at e1 e3
    subst e1
    refine ⟨x, ?_, fun a c ha hc => ?_⟩
    · unfold f_X4_bringUp_37
      dsimp only
      rw [if_pos (show (64 : Int32) ≤ nI 64 from nI_le (a := 64) (by omega) (by decide))]
    · have := e3 a c ha hc
      dsimp only at this
      rw [if_pos hc] at this
      exact this
theorem ck_row {y : OS} {U : Nat → Nat → Nat} (hp : p ∈ [2, 3, 5, 7]) (hU : TB (y.2.2.1 0) 64 64 p U) {r o k a f : Nat} (hr : r < o) (ho : o < 64) (hk : k < 64) (ha : a < p) (hf : f < p) : ∃ x, lpv (f_X4_clearBelow_56 stn (nI r) (nI k) (nI p) (nI a) (nI o) (nI f)) (y, nI k) = some x ∧ TB (x.2.2.1 0) 64 64 p (fun b c => if b = o ∧ k ≤ c then (a * U o c + (p - f) * U r c) % p else U b c) := by
  have hp7 := p7 hp
  refine lpv_inv (f := f_X4_clearBelow_56 stn (nI r) (nI k) (nI p) (nI a) (nI o) (nI f)) (fun i z => z.2 = nI i ∧ k ≤ i ∧ TB (z.1.2.2.1 0) 64 64 p (fun b c => if b = o ∧ k ≤ c ∧ c < i then (a * U o c + (p - f) * U r c) % p else U b c)) 64 (fun x => TB (x.2.2.1 0) 64 64 p (fun b c => if b = o ∧ k ≤ c then (a * U o c + (p - f) * U r c) % p else U b c)) (fun i z hi hI => Or.inl ?_) (fun z hI => ?_) k (y, nI k) (by omega) ⟨rfl, Nat.le_refl _, fun b c hb hc => by dsimp only; rw [if_neg (by omega)]; exact hU b c hb hc⟩
  · obtain ⟨x, b⟩ := z
    obtain ⟨e1, e2, e3⟩ := hI
    dsimp only at e1 e2 e3
    subst e1
    obtain ⟨g1, g2⟩ := e3 o i ho hi
    obtain ⟨g3, g4⟩ := e3 r i (by omega) hi
    dsimp only at g1 g2 g3 g4
    rw [if_neg (by omega)] at g1 g2 g3 g4
    have hmod := Nat.mod_lt (a * U o i + (p - f) * U r i) (show 0 < p by omega)
    refine ⟨(oA x 0 (upd (x.2.2.1 0) (64 * o + i) (nI ((a * U o i + (p - f) * U r i) % p))), nI (i + 1)), ?_, rfl, by omega, fun b c hb hc => ?_⟩
    · unfold f_X4_clearBelow_56
      dsimp only
      rw [if_neg (show ¬ (64 : Int32) ≤ nI i from nI_ge (b := 64) hi (by decide)), i64r, i64r, if_pos (inb_t (by omega) (by omega)), if_pos (inb_t (by omega) (by omega)), nI_clamp (by omega), nI_clamp (by omega), g1, g3]
      dsimp only [bnd]
      rw [fmod_c p hp a ha _ g2 f hf _ g4, ob_s, nI_1]
    · dsimp only
      rw [oA_self]
      unfold upd
      obtain ⟨f1, f2⟩ := e3 b c hb hc
      dsimp only at f1 f2
      by_cases q1 : 64 * b + c = 64 * o + i
      · have h1 : b = o := by omega
        have h2 : c = i := by omega
        rw [if_pos q1, h1, h2, if_pos ⟨rfl, e2, by omega⟩]
        exact ⟨rfl, hmod⟩
      · rw [if_neg q1]
        by_cases q2 : b = o ∧ k ≤ c ∧ c < i
        · rw [if_pos q2] at f1 f2
          rw [if_pos ⟨q2.1, q2.2.1, by omega⟩]
          exact ⟨f1, f2⟩
        · rw [if_neg q2] at f1 f2
          rw [if_neg (fun z => q2 ⟨z.1, z.2.1, by have := z.1; have := z.2.2; omega⟩)]
          exact ⟨f1, f2⟩
  · obtain ⟨x, b⟩ := z
    obtain ⟨e1, e2, e3⟩ := hI
    dsimp only at e1 e2 e3
    subst e1
    refine ⟨x, ?_, fun b c hb hc => ?_⟩
    · unfold f_X4_clearBelow_56
      dsimp only
      rw [if_pos (show (64 : Int32) ≤ nI 64 from nI_le (a := 64) (by omega) (by decide))]
    · have := e3 b c hb hc
      dsimp only at this ⊢
      by_cases q : b = o ∧ k ≤ c
      · rw [if_pos q]; rw [if_pos ⟨q.1, q.2, hc⟩] at this; exact this
      · rw [if_neg q]; rw [if_neg (fun z => q ⟨z.1, z.2.1⟩)] at this; exact this
theorem ck_clear (hw : CW stn w) {y : OS} {U : Nat → Nat → Nat} (hp : p ∈ [2, 3, 5, 7]) (hU : TB (y.2.2.1 0) 64 64 p U) {r k : Nat} (hr : r < w.2.length) (hk : k < 64) : ∃ x, f_X4_clearBelow y stn (nI r) (nI k) (nI p) = some x ∧ TB (x.2.2.1 0) 64 64 p (clU p w.2.length U r k) := by
  have hp7 := p7 hp
  have hm := hw.1.2.2.2.1
  have key := lpv_inv (f := f_X4_clearBelow_18 stn (nI r) (nI k) (nI p) (nI (U r k))) (fun o z => z.2 = nI o ∧ r < o ∧ TB (z.1.2.2.1 0) 64 64 p (fun b c => if b < o then clU p w.2.length U r k b c else U b c)) w.2.length (fun x => TB (x.2.2.1 0) 64 64 p (clU p w.2.length U r k)) (fun o z ho hI => Or.inl ?_) (fun z hI => ?_) (r + 1) (y, nI (r + 1)) (by omega) ⟨rfl, by omega, fun b c hb hc => by
    dsimp only
    by_cases q : b < r + 1
    · rw [if_pos q]
      unfold clU
      rw [if_neg (by omega)]
      exact hU b c hb hc
    · rw [if_neg q]; exact hU b c hb hc⟩
  · obtain ⟨x, e, h⟩ := key
    refine ⟨x, ?_, h⟩
    unfold f_X4_clearBelow
    rw [i64r, if_pos (inb_t (by omega) (by omega)), nI_clamp (by omega), (hU r k (by omega) hk).1]
    dsimp only [bnd]
    rw [nI_1, e, ob_s]
  · obtain ⟨x, b⟩ := z
    obtain ⟨e1, e0, e3⟩ := hI
    dsimp only at e1 e0 e3
    subst e1
    obtain ⟨g1, g2⟩ := e3 o k (by omega) hk
    dsimp only at g1 g2
    rw [if_neg (by omega)] at g1 g2
    by_cases z : U o k = 0
    · refine ⟨(x, nI (o + 1)), ?_, rfl, by omega, fun b c hb hc => ?_⟩
      · unfold f_X4_clearBelow_18
        dsimp only
        rw [hw.1.2.1, if_neg (nI_ge ho (by omega)), if_neg (show ¬ (64 : Int32) ≤ nI o from nI_ge (b := 64) (by omega) (by decide)), i64r, if_pos (inb_t (by omega) (by omega)), nI_clamp (by omega), g1]
        dsimp only [bnd]
        rw [if_pos ((nI0 (by omega)).mpr z), nI_1]
      · obtain ⟨f1, f2⟩ := e3 b c hb hc
        dsimp only at f1 f2 ⊢
        by_cases q : b < o
        · rw [if_pos q] at f1 f2
          rw [if_pos (show b < o + 1 by omega)]
          exact ⟨f1, f2⟩
        · rw [if_neg q] at f1 f2
          by_cases q2 : b = o
          · rw [if_pos (show b < o + 1 by omega)]
            unfold clU
            rw [if_neg (fun c => by rw [q2] at c; exact c.2.2.2 z)]
            exact ⟨f1, f2⟩
          · rw [if_neg (show ¬ b < o + 1 by omega)]
            exact ⟨f1, f2⟩
    · obtain ⟨v, v1, v2⟩ := ck_row (stn := stn) hp e3 (a := U r k) (f := U o k) e0 (by omega) hk (hU r k (by omega) hk).2 g2
      refine ⟨(v, nI (o + 1)), ?_, rfl, by omega, fun b c hb hc => ?_⟩
      · unfold f_X4_clearBelow_18
        dsimp only
        rw [hw.1.2.1, if_neg (nI_ge ho (by omega)), if_neg (show ¬ (64 : Int32) ≤ nI o from nI_ge (b := 64) (by omega) (by decide)), i64r, if_pos (inb_t (by omega) (by omega)), nI_clamp (by omega), g1]
        dsimp only [bnd]
        rw [if_neg (fun c => z ((nI0 (by omega)).mp c)), v1, ob_s, nI_1]
      · obtain ⟨f1, f2⟩ := v2 b c hb hc
        dsimp only at f1 f2 ⊢
        rw [if_neg (show ¬ o < o by omega), if_pos e0] at f1 f2
        have hrr : clU p w.2.length U r k r c = U r c := by unfold clU; rw [if_neg (by omega)]
        rw [hrr] at f1 f2
        by_cases q2 : b = o
        · rw [if_pos (show b < o + 1 by omega)]
          unfold clU
          by_cases q3 : k ≤ c
          · rw [if_pos ⟨q2, q3⟩] at f1 f2
            rw [q2] at f1 ⊢
            rw [if_pos ⟨e0, ho, q3, z⟩]
            exact ⟨f1, f2⟩
          · rw [if_neg (fun c => q3 c.2), if_neg (show ¬ b < o by omega)] at f1 f2
            rw [if_neg (fun c => q3 c.2.2.1)]
            exact ⟨f1, f2⟩
        · rw [if_neg (fun c => q2 c.1)] at f1 f2
          by_cases q : b < o
          · rw [if_pos q] at f1 f2
            rw [if_pos (show b < o + 1 by omega)]
            exact ⟨f1, f2⟩
          · rw [if_neg q] at f1 f2
            rw [if_neg (show ¬ b < o + 1 by omega)]
            exact ⟨f1, f2⟩
  · obtain ⟨x, b⟩ := z
    obtain ⟨e1, e0, e3⟩ := hI
    dsimp only at e1 e0 e3
    subst e1
    refine ⟨x, ?_, fun b c hb hc => ?_⟩
    · unfold f_X4_clearBelow_18
      dsimp only
      rw [hw.1.2.1, if_pos (nI_le (Nat.le_refl _) (by omega))]
    · have := e3 b c hb hc
      dsimp only at this
      by_cases q : b < w.2.length
      · rw [if_pos q] at this; exact this
      · rw [if_neg q] at this
        unfold clU
        rw [if_neg (fun c => q c.2.1)]
        exact this
/-- one column -/
theorem ck_step (hw : CW stn w) {y : OS} {U : Nat → Nat → Nat} (hp : p ∈ [2, 3, 5, 7]) (hU : TB (y.2.2.1 0) 64 64 p U) {r k : Nat} (hr : r ≤ w.2.length) (hr2 : r < 64) (hk : k < w.1) : ((∀ l, r ≤ l → l < w.2.length → U l k = 0) ∧ f_X4_rankOver_76 stn (nI p) (y, nI r, nI k) = some (.inl (y, nI r, nI (k + 1)))) ∨ ∃ l x, r ≤ l ∧ l < w.2.length ∧ U l k ≠ 0 ∧ (∀ j, r ≤ j → j < l → U j k = 0) ∧ f_X4_rankOver_76 stn (nI p) (y, nI r, nI k) = some (.inl (x, nI (r + 1), nI (k + 1))) ∧ TB (x.2.2.1 0) 64 64 p (clU p w.2.length (swU U r l) r k) := by
  have hn := hw.1.2.2.1
  have hm := hw.1.2.2.2.1
  obtain ⟨l, f, e1, e2, e3, e4, e5, e6⟩ := ck_find hw (p7 hp).2 hU hr (show k < 64 by omega)
  rcases Nat.lt_or_ge l w.2.length with hl | hl
  · right
    obtain ⟨g1, g2⟩ := e5 hl
    subst g2
    obtain ⟨x, x1, x2⟩ := ck_swap (stn := stn) hU hr2 (show l < 64 by omega)
    obtain ⟨v, v1, v2⟩ := ck_clear hw hp x2 (show r < w.2.length by omega) (show k < 64 by omega)
    refine ⟨l, v, e2, hl, g1, e4, ?_, v2⟩
    unfold f_X4_rankOver_76
    dsimp only
    rw [hw.1.1, if_neg (nI_ge hk (by omega)), if_neg (show ¬ (64 : Int32) ≤ nI k from nI_ge (b := 64) (by omega) (by decide)), if_neg (show ¬ (64 : Int32) ≤ nI r from nI_ge (b := 64) (by omega) (by decide))]
    unfold f_X4_bringUp
    rw [e1, ob_s]
    dsimp only
    rw [if_pos rfl, x1, ob_s, ob_s]
    dsimp only
    rw [if_neg (by decide), v1, ob_s]
    simp only [bnd, nI_1]
  · left
    have hle : l = w.2.length := by omega
    subst hle
    refine ⟨fun j a b => e4 j a b, ?_⟩
    have e6 := e6 rfl
    subst e6
    unfold f_X4_rankOver_76
    dsimp only
    rw [hw.1.1, if_neg (nI_ge hk (by omega)), if_neg (show ¬ (64 : Int32) ≤ nI k from nI_ge (b := 64) (by omega) (by decide)), if_neg (show ¬ (64 : Int32) ≤ nI r from nI_ge (b := 64) (by omega) (by decide))]
    unfold f_X4_bringUp
    rw [e1, ob_s]
    dsimp only
    rw [if_neg (by decide), ob_s]
    dsimp only
    rw [if_pos rfl]
    simp only [bnd, nI_1]
end RKC
