/-! questions: triads, evens -/
theorem cnt_out {p : Nat → Bool} {n m : Nat} (hnm : n ≤ m) (h : ∀ i, n ≤ i → i < m → p i = false) : cnt p m = cnt p n := by
  obtain ⟨k, rfl⟩ : ∃ k, m = n + k := ⟨m - n, by omega⟩
  rw [cnt_add, cnt_0.mpr (fun i hi => h (n + i) (by omega) (by omega)), Nat.add_zero]
theorem cnt_or2 {p q r : Nat → Bool} : ∀ {n : Nat}, (∀ i, i < n → p i = true → q i = true ∨ r i = true) → cnt p n ≤ cnt q n + cnt r n := by
  intro n
  induction n with
  | zero => intro _; exact Nat.zero_le _
  | succ n ih =>
    intro h
    have h1 := ih (fun i hi => h i (by omega))
    unfold cnt
    by_cases hp : p n = true
    · rw [if_pos hp]
      rcases h n (by omega) hp with z | z
      · rw [if_pos z]; split <;> omega
      · rw [if_pos z]; split <;> omega
    · rw [if_neg hp]
      split <;> split <;> omega
theorem cnt_two (f : Nat → Bool) : ∀ N, cnt f (2 * N) = cnt (fun k => f (2 * k)) N + cnt (fun k => f (2 * k + 1)) N := by
  intro N
  induction N with
  | zero => rfl
  | succ N ih =>
    rw [show 2 * (N + 1) = (2 * N + 1) + 1 by omega]
    simp only [cnt]
    rw [ih]
    omega
theorem lpv_from {σ ρ : Type} {f : σ → Option (σ ⊕ ρ)} (I : Nat → σ) (N : Nat) {r : ρ} {a : Nat} (hs : ∀ i, a ≤ i → i < N → f (I i) = some (.inl (I (i + 1)))) (he : f (I N) = some (.inr r)) (ha : a ≤ N) : lpv f (I a) = some r := by
  have key : ∀ k i, a ≤ i → i + k = N → lpv f (I i) = some r := by
    intro k
    induction k with
    | zero =>
      intro i h1 hi
      rw [show i = N by omega]
      exact lpv_out he
    | succ k ih =>
      intro i h1 hi
      rw [lpv_in (hs i h1 (by omega))]
      exact ih (i + 1) (by omega) (by omega)
  exact key (N - a) a (Nat.le_refl _) (by omega)
/-- triads -/
def trP (w : Wd) (c : Int32) (i j : Nat) : Nat → Bool := fun z => decide (j < z) && (!tb (nearF w.2 i) z && (!tb (nearF w.2 j) z && (decide (c = -1) || decide (nI (pcn (nearF w.2 i &&& nearF w.2 j &&& nearF w.2 z)) = c))))
def trT (w : Wd) (c : Int32) (i j : Nat) : Nat := cnt (trP w c i j) w.1
def trG2 (w : Wd) (c : Int32) (i : Nat) : Nat → Int32 → Int32 ⊕ Int32 := fun j b => .inl (if tb (nearF w.2 i) j = true then b else b + nI (trT w c i j))
def trG1 (w : Wd) (c : Int32) : Nat → Int32 → Int32 ⊕ Int32 := fun i b => .inl (foldE (trG2 w c i) id (i + 1) (w.1 - (i + 1)) b)
def trW (w : Wd) (c : Int32) : Int32 := foldE (trG1 w c) id 0 w.1 0
section TRI
variable {st stn : OS} {w : Wd}
theorem first_j {j : Nat} (hj : j < 64) : f_X10_first (nI j + 1) = some (fst64 (j + 1)) := by
  rw [nI_1]
  exact first_10 (by omega)
theorem triOf_10 (hw : CW stn w) (c : Int32) {i j : Nat} (hi : i < w.1) (hj : j < w.1) : f_X6_triadsOf stn (nI i) (nI j) c = some (nI (trT w c i j)) := by
  have hn := hw.1.2.2.1
  unfold f_X6_triadsOf
  rw [all_10 hw.1, ob_s, first_j (by omega), ob_s, nearAt_10 hw hi, ob_s, nearAt_10 hw hj, ob_s]
  dsimp only [bnd]
  have hap : ∀ z, tb (((fst64 w.1 &&& (fst64 (j + 1) ^^^ (-1))) &&& (nearF w.2 i ^^^ (-1))) &&& (nearF w.2 j ^^^ (-1))) z = (decide (z < w.1) && (decide (j < z) && (!tb (nearF w.2 i) z && !tb (nearF w.2 j) z))) := fun z => by
    rw [tb_dif, tb_dif, tb_dif, tb_fst64 hn, tb_fst64 (by omega)]
    by_cases h1 : z < w.1 <;> by_cases h2 : j < z
    · simp [h1, h2, show ¬ z < j + 1 by omega]
    · simp [h1, h2, show z < j + 1 by omega]
    · simp [h1]
    · simp [h1]
  by_cases hc : c = -1
  · rw [if_pos hc, bitCount_13, ob_s]
    congr 2
    unfold pcn trT
    rw [cnt_out hn (fun z h1 h2 => by rw [hap]; simp [show ¬ z < w.1 by omega])]
    refine cnt_cong (fun z hz => ?_)
    rw [hap]
    unfold trP
    simp [hz, hc]
  · rw [if_neg hc, ob_s, ob_s]
    have key := lpv_for (f := f_X6_triadsOf_69 stn c (((fst64 w.1 &&& (fst64 (j + 1) ^^^ (-1))) &&& (nearF w.2 i ^^^ (-1))) &&& (nearF w.2 j ^^^ (-1))) (nearF w.2 i &&& nearF w.2 j)) (fun z => (nI (cnt (trP w c i j) z), nI z)) w.1 (r := nI (trT w c i j)) (fun z hz => ?_) ?_ (j + 1) (by omega)
    · have h0 : cnt (trP w c i j) (j + 1) = 0 := cnt_0.mpr (fun z hz => by unfold trP; simp [show ¬ j < z by omega])
      rw [h0] at key
      rw [nI_1, show ((0, nI (j + 1)) : Int32 × Int32) = (nI 0, nI (j + 1)) from rfl, key, ob_s]
    · unfold f_X6_triadsOf_69
      dsimp only
      rw [hw.1.1, if_neg (nI_ge hz (by omega)), has_10 (by omega), ob_s, hap]
      simp only [bnd, nI_1, cnt]
      by_cases h1 : (decide (z < w.1) && (decide (j < z) && (!tb (nearF w.2 i) z && !tb (nearF w.2 j) z))) = true
      · rw [h1, if_neg b2t, nearAt_10 hw hz, ob_s, bitCount_13, ob_s]
        simp only [Bool.and_eq_true, decide_eq_true_eq] at h1
        by_cases h2 : nI (pcn (nearF w.2 i &&& nearF w.2 j &&& nearF w.2 z)) = c
        · have : trP w c i j z = true := by unfold trP; simp [h1.2.1, h1.2.2.1, h1.2.2.2, h2, hc]
          rw [if_pos h2, if_pos this]
        · have : ¬ trP w c i j z = true := by unfold trP; simp [h2, hc]
          rw [if_neg h2, if_neg this]
          rfl
      · rw [eq_false_of_ne_true h1, if_pos b2f]
        have : ¬ trP w c i j z = true := by
          intro q
          apply h1
          unfold trP at q
          simp only [Bool.and_eq_true, decide_eq_true_eq] at q ⊢
          exact ⟨hz, q.1, q.2.1, q.2.2.1⟩
        rw [if_neg this]
        rfl
    · unfold f_X6_triadsOf_69
      dsimp only
      rw [hw.1.1, if_pos (nI_le (Nat.le_refl _) (by omega))]
      rfl
theorem triads_10 (hw : CW stn w) (c : Int32) : f_X6_triadsWith stn c = some (trW w c) := by
  have hn := hw.1.2.2.1
  have inner : ∀ i, i < w.1 → ∀ b, lpv (f_X6_triadsWith_17 stn c (nI i)) (b, nI (i + 1)) = some (foldE (trG2 w c i) id (i + 1) (w.1 - (i + 1)) b) := fun i hi b => lpv_foldE (N := w.1) (fun j b => (b, nI j)) (trG2 w c i) id (fun j b hj => by
    unfold f_X6_triadsWith_17 trG2
    dsimp only
    rw [hw.1.1, if_neg (nI_ge hj (by omega)), nearAt_10 hw hi, ob_s, has_10 (by omega), ob_s]
    cases tb (nearF w.2 i) j with
    | true => rw [if_neg b2t]; simp only [bnd, nI_1]; rfl
    | false => rw [if_pos b2f, triOf_10 hw c hi hj, ob_s]; simp only [bnd, nI_1]; rfl) (fun b => by
    unfold f_X6_triadsWith_17
    dsimp only
    rw [hw.1.1, if_pos (nI_le (Nat.le_refl _) (by omega))]
    rfl) (i + 1) b (by omega)
  have outer : lpv (f_X6_triadsWith_4 stn c) (0, 0) = some (trW w c) := lpv_foldE (N := w.1) (fun j b => (b, nI j)) (trG1 w c) id (fun i b hi => by
    unfold f_X6_triadsWith_4 trG1
    dsimp only [bnd]
    rw [hw.1.1, if_neg (nI_ge hi (by omega)), nI_1, inner i hi b, ob_s]
    rfl) (fun b => by
    unfold f_X6_triadsWith_4
    dsimp only
    rw [hw.1.1, if_pos (nI_le (Nat.le_refl _) (by omega))]
    rfl) 0 0 (Nat.zero_le _)
  unfold f_X6_triadsWith
  rw [outer, ob_s]
theorem triads_12 {y : OS} (hy : RN y w) (c : Int32) : lpv (f_X12_triads_13 y c) (0, 0) = some (trW w c) := by
  have hn := hy.1.2.2.1
  have in2 : ∀ i, i < w.1 → ∀ j, j < w.1 → ∀ b, lpv (f_X12_triads_41 y c (nI i) (nI j)) (b, nI (j + 1)) = some (if tb (nearF w.2 i) j = true then b else b + nI (trT w c i j)) := by
    intro i hi j hj b
    cases hb : tb (nearF w.2 i) j with
    | true =>
      rw [if_pos rfl]
      apply lpv_out
      unfold f_X12_triads_41
      dsimp only
      rw [hy.1.1]
      by_cases hz : w.1 ≤ j + 1
      · rw [if_pos (nI_le hz (by omega))]
      · rw [if_neg (nI_ge (by omega) (by omega)), if_pos (inb_t (by omega) (by omega)), nI_clamp (by omega), hy.2 i hi, has_12 (by omega), ob_s, hb, if_neg b2t]
    | false =>
      rw [if_neg (by decide)]
      have key := lpv_from (f := f_X12_triads_41 y c (nI i) (nI j)) (fun z => (b + nI (cnt (trP w c i j) z), nI z)) w.1 (r := b + nI (trT w c i j)) (a := j + 1) (fun z hjz hz => ?_) ?_ (by omega)
      · have h0 : cnt (trP w c i j) (j + 1) = 0 := cnt_0.mpr (fun z hz => by unfold trP; simp [show ¬ j < z by omega])
        rw [h0, show b + nI 0 = b from Int32.add_zero b] at key
        exact key
      · have hgo : (trP w c i j z = true → f_X12_triads_41 y c (nI i) (nI j) (b + nI (cnt (trP w c i j) z), nI z) = some (.inl (b + nI (cnt (trP w c i j) z) + 1, nI z + 1))) ∧ (¬ trP w c i j z = true → j < z → f_X12_triads_41 y c (nI i) (nI j) (b + nI (cnt (trP w c i j) z), nI z) = some (.inl (b + nI (cnt (trP w c i j) z), nI z + 1))) := by
          unfold f_X12_triads_41
          dsimp only [bnd]
          rw [hy.1.1, if_neg (nI_ge hz (by omega)), if_pos (inb_t (by omega) (by omega)), nI_clamp (by omega), hy.2 i hi, has_12 (by omega), ob_s, hb, if_pos b2f, has_12 (by omega), ob_s, if_pos (inb_t (by omega) (by omega)), nI_clamp (by omega), hy.2 j hj, has_12 (by omega), ob_s, if_pos (inb_t (by omega) (by omega)), nI_clamp (by omega), hy.2 z hz, ones_12, ob_s, Int32.add_zero]
          constructor
          · intro h
            unfold trP at h
            simp only [Bool.and_eq_true, Bool.or_eq_true, decide_eq_true_eq, Bool.not_eq_true'] at h
            rw [h.2.1, if_pos b2f, h.2.2.1, if_pos b2f]
            rcases h.2.2.2 with q | q
            · rw [if_pos q]
            · by_cases q2 : c = -1
              · rw [if_pos q2]
              · rw [if_neg q2, if_pos q]
          · intro h hjz
            unfold trP at h
            simp only [Bool.and_eq_true, Bool.or_eq_true, decide_eq_true_eq, Bool.not_eq_true'] at h
            cases h1 : tb (nearF w.2 i) z with
            | true => rw [if_neg b2t]
            | false =>
              rw [if_pos b2f]
              cases h2 : tb (nearF w.2 j) z with
              | true => rw [if_neg b2t]
              | false =>
                rw [if_pos b2f]
                have h3 : ¬ (c = -1 ∨ nI (pcn (nearF w.2 i &&& nearF w.2 j &&& nearF w.2 z)) = c) := fun q => h ⟨hjz, h1, h2, q⟩
                rw [if_neg (fun q => h3 (Or.inl q)), if_neg (fun q => h3 (Or.inr q))]
        simp only [cnt]
        by_cases hP : trP w c i j z = true
        · have e9 : b + nI (cnt (trP w c i j) z) + 1 = b + nI (cnt (trP w c i j) z + 1) := by rw [← nI_1 (cnt (trP w c i j) z), Int32.add_assoc]
          rw [hgo.1 hP, if_pos hP, e9, nI_1]
        · rw [hgo.2 hP (by omega), if_neg hP, nI_1]
          rfl
      · unfold f_X12_triads_41
        dsimp only
        rw [hy.1.1, if_pos (nI_le (Nat.le_refl _) (by omega))]
        rfl
  have inner : ∀ i, i < w.1 → ∀ b, lpv (f_X12_triads_26 y c (nI i)) (b, nI (i + 1)) = some (foldE (trG2 w c i) id (i + 1) (w.1 - (i + 1)) b) := fun i hi b => lpv_foldE (N := w.1) (fun j b => (b, nI j)) (trG2 w c i) id (fun j b hj => by
    unfold f_X12_triads_26 trG2
    dsimp only [bnd]
    rw [hy.1.1, if_neg (nI_ge hj (by omega)), nI_1, in2 i hi j hj b, ob_s]
    rfl) (fun b => by
    unfold f_X12_triads_26
    dsimp only
    rw [hy.1.1, if_pos (nI_le (Nat.le_refl _) (by omega))]
    rfl) (i + 1) b (by omega)
  exact lpv_foldE (N := w.1) (fun j b => (b, nI j)) (trG1 w c) id (fun i b hi => by
    unfold f_X12_triads_13 trG1
    dsimp only [bnd]
    rw [hy.1.1, if_neg (nI_ge hi (by omega)), nI_1, inner i hi b, ob_s]
    rfl) (fun b => by
    unfold f_X12_triads_13
    dsimp only
    rw [hy.1.1, if_pos (nI_le (Nat.le_refl _) (by omega))]
    rfl) 0 0 (Nat.zero_le _)
theorem q_triads (h : RWo st w.1 w.2) (a0 : Int32) : ∃ k, (∀ stt stn, CW stn w → f_X11_triads stt stn a0 = some k) ∧ ∃ x, f_X12_triads st a0 = some (k, x) ∧ Kt st x := by
  obtain ⟨y, ey, ky, hy⟩ := layN (h.th 0)
  refine ⟨trW w a0, fun stt stn hw => ?_, y, ?_, Kt.p ky⟩
  · unfold f_X11_triads
    rw [triads_10 hw, ob_s]
  · unfold f_X12_triads
    dsimp only [bnd]
    rw [ey, ob_s, triads_12 hy, ob_s]
end TRI

/-! evens -/
theorem sub_fst0 {s : Int64} {n : Nat} (hn : n ≤ 64) (h : ∀ i, tb s i = true → i < n) : s &&& (fst64 n ^^^ (-1)) = 0 := by
  apply tb_ext
  intro i hi
  rw [tb_dif, tb_0, tb_fst64 hn]
  cases hs : tb s i with
  | false => rfl
  | true => rw [decide_eq_true (h i hs)]; rfl
def evE (w : Wd) (m : Int32) (s : Int64) : Bool := allF (fun i => decide (nI (pcn (wl w.2 i &&& s)) = m)) 0 w.2.length
theorem evE_iff {w : Wd} {m : Int32} {s : Int64} : evE w m s = true ↔ ∀ i, i < w.2.length → nI (pcn (wl w.2 i &&& s)) = m := by
  unfold evE
  rw [allF_iff]
  constructor
  · intro h i hi
    exact of_decide_eq_true (h i (by omega) (by omega))
  · intro h i _ hi
    exact decide_eq_true (h i (by omega))
def evT (w : Wd) (m : Int32) (n p c : Nat) : Nat := cnt (fun k => evE w m (lN (c + 2 ^ p * k))) (2 ^ (n - p))
theorem evT_split (w : Wd) (m : Int32) {n p c : Nat} (hp : p < n) : evT w m n p c = evT w m n (p + 1) c + evT w m n (p + 1) (c + 2 ^ p) := by
  unfold evT
  rw [show 2 ^ (n - p) = 2 * 2 ^ (n - (p + 1)) by rw [show n - p = (n - (p + 1)) + 1 by omega, Nat.pow_succ, Nat.mul_comm], cnt_two]
  congr 1
  · refine cnt_cong (fun k _ => ?_)
    rw [show c + 2 ^ p * (2 * k) = c + 2 ^ (p + 1) * k by rw [Nat.pow_succ, Nat.mul_assoc]]
  · refine cnt_cong (fun k _ => ?_)
    rw [show c + 2 ^ p * (2 * k + 1) = c + 2 ^ p + 2 ^ (p + 1) * k by rw [Nat.pow_succ, Nat.mul_add, Nat.mul_assoc]; omega]
theorem tb_cp {p c k j : Nat} (hc : c < 2 ^ p) (hb : c + 2 ^ p * k < 2 ^ 64) : tb (lN (c + 2 ^ p * k)) j = if j < p then c.testBit j else k.testBit (j - p) := by
  rw [tb_lN hb, Nat.add_comm, Nat.testBit_two_pow_mul_add _ hc]
theorem lN_or {p c : Nat} (hp : p < 64) (hc : c < 2 ^ p) : lN c ||| bit1 p = lN (c + 2 ^ p) := by
  have h2 : 2 ^ p ≤ 2 ^ 63 := Nat.pow_le_pow_right (by decide) (by omega)
  have h3 : (2 : Nat) ^ 64 = 2 ^ 63 + 2 ^ 63 := by decide
  apply tb_ext
  intro i hi
  have e := tb_cp (j := i) (k := 1) hc (by omega)
  rw [Nat.mul_one] at e
  rw [tb_or, tb_lN (by omega), tb_bit1 hp, e]
  rcases Nat.lt_trichotomy i p with q | q | q
  · rw [if_pos q, decide_eq_false (by omega), Bool.or_false]
  · rw [if_neg (by omega), decide_eq_true q, q, Nat.sub_self, Bool.or_true]
    rfl
  · rw [if_neg (by omega), decide_eq_false (by omega), Bool.or_false, Nat.testBit_lt_two_pow (Nat.lt_of_lt_of_le hc (Nat.pow_le_pow_right (by decide) (by omega)))]
    obtain ⟨d, hd⟩ : ∃ d, i - p = d + 1 := ⟨i - p - 1, by omega⟩
    rw [hd, Nat.testBit_succ]
    simp
section EV
variable {st stn : OS} {w : Wd}
def evC (w : Wd) (m : Int32) (p : Nat) (s : Int64) : Bool := allF (fun i => !tb (thrF w.2 p) i || (!decide (m < nI (pcn (wl w.2 i &&& s))) && decide (m ≤ nI (pcn (wl w.2 i &&& s)) + nI (pcn (wl w.2 i &&& (fst64 (p + 1) ^^^ (-1))))))) 0 w.2.length
theorem canBe_10 (hw : CW stn w) (m : Int32) {p : Nat} (hp : p < w.1) (s : Int64) : f_X6_canBeEven stn m (nI p) s = some (if evC w m p s = true then 1 else 0) := by
  have hn := hw.1.2.2.1
  have hl := hw.1.2.2.2.1
  unfold f_X6_canBeEven
  rw [first_j (by omega), ob_s]
  dsimp only [bnd]
  rw [throughAt_10 hw hp, ob_s]
  have key : lpv (f_X6_canBeEven_22 stn m s (fst64 (p + 1) ^^^ (-1)) (thrF w.2 p)) 0 = some (if evC w m p s = true then 1 else 0) := lpv_allF (N := w.2.length) (fun i hi => by
    unfold f_X6_canBeEven_22
    rw [hw.1.2.1, if_neg (nI_ge hi (by omega)), has_10 (by omega), ob_s]
    cases tb (thrF w.2 p) i with
    | false => rw [if_pos b2f]; simp only [bnd, nI_1]; rfl
    | true =>
      rw [if_neg b2t, setAt_10 hw.1 hi, ob_s, bitCount_13, ob_s, ob_s, bitCount_13, ob_s]
      simp only [bnd, nI_1, Bool.not_true, Bool.false_or, Bool.and_eq_true, Bool.not_eq_true', decide_eq_false_iff_not, decide_eq_true_eq]
      by_cases z1 : m < nI (pcn (wl w.2 i &&& s))
      · rw [if_pos z1, if_neg (fun z => z.1 z1)]
      · rw [if_neg z1]
        by_cases z2 : m ≤ nI (pcn (wl w.2 i &&& s)) + nI (pcn (wl w.2 i &&& (fst64 (p + 1) ^^^ (-1))))
        · rw [if_pos z2, if_pos ⟨z1, z2⟩]
        · rw [if_neg z2, if_neg (fun z => z2 z.2)]) (fun i h1 h2 => by
    unfold f_X6_canBeEven_22
    rw [hw.1.2.1, if_pos (nI_le h1 (by omega))]) 0 (Nat.zero_le _)
  rw [key, ob_s]
  cases evC w m p s <;> rfl
/-- what is chosen below p, with all that may come -/
theorem evC_no {m : Int32} {n p c : Nat} (hn : n = w.1) (hn2 : w.1 ≤ 64) (hl : w.2.length ≤ 64) (hp : p < n) (hn16 : n ≤ 16) (hc : c < 2 ^ (p + 1)) (h : ¬ evC w m p (lN c) = true) : evT w m n (p + 1) c = 0 := by
  unfold evT
  refine cnt_0.mpr (fun k hk => ?_)
  apply eq_false_of_ne_true
  intro hE
  apply h
  have hb : c + 2 ^ (p + 1) * k < 2 ^ 64 := by
    have h1 : 2 ^ (p + 1) * k + 2 ^ (p + 1) ≤ 2 ^ (p + 1) * 2 ^ (n - (p + 1)) := by
      rw [← Nat.mul_succ]
      exact Nat.mul_le_mul_left _ hk
    rw [← Nat.pow_add, show p + 1 + (n - (p + 1)) = n by omega] at h1
    have h2 : 2 ^ n ≤ 2 ^ 16 := Nat.pow_le_pow_right (by decide) hn16
    have h3 : (2 : Nat) ^ 16 < 2 ^ 64 := by decide
    omega
  have hc64 : c < 2 ^ 64 := by omega
  unfold evC
  refine allF_iff.mpr (fun i _ hi => ?_)
  have hE2 := evE_iff.mp hE i (by omega)
  have p1 := pcn_le (wl w.2 i &&& lN c)
  have p2 := pcn_le (wl w.2 i &&& lN (c + 2 ^ (p + 1) * k))
  have p3 := pcn_le (wl w.2 i &&& (fst64 (p + 1) ^^^ (-1)))
  have g1 : pcn (wl w.2 i &&& lN c) ≤ pcn (wl w.2 i &&& lN (c + 2 ^ (p + 1) * k)) := pcn_mono (fun j hj => by
    rw [tb_and, Bool.and_eq_true] at hj ⊢
    refine ⟨hj.1, ?_⟩
    rw [tb_cp hc hb]
    by_cases q : j < p + 1
    · rw [if_pos q, ← tb_lN hc64]; exact hj.2
    · rw [tb_lN hc64, Nat.testBit_lt_two_pow (Nat.lt_of_lt_of_le hc (Nat.pow_le_pow_right (by decide) (by omega)))] at hj
      exact absurd hj.2 (by decide))
  have g2 : pcn (wl w.2 i &&& lN (c + 2 ^ (p + 1) * k)) ≤ pcn (wl w.2 i &&& lN c) + pcn (wl w.2 i &&& (fst64 (p + 1) ^^^ (-1))) := by
    unfold pcn
    refine cnt_or2 (fun j _ hj => ?_)
    rw [tb_and, Bool.and_eq_true, tb_cp hc hb] at hj
    rw [tb_and, tb_dif, hj.1, Bool.true_and, Bool.true_and, tb_fst64 (by omega), tb_lN hc64]
    by_cases q : j < p + 1
    · rw [if_pos q] at hj
      exact Or.inl hj.2
    · exact Or.inr (by rw [decide_eq_false q]; rfl)
  rw [← hE2]
  cases tb (thrF w.2 p) i with
  | false => rfl
  | true =>
    rw [nI_add]
    simp only [Bool.not_true, Bool.false_or, Bool.and_eq_true, Bool.not_eq_true', decide_eq_false_iff_not, decide_eq_true_eq]
    exact ⟨nI_nlt g1 (by omega), nI_le g2 (by omega)⟩
theorem evens_10 (hw : CW stn w) (hW : WFw w) (m : Int32) (hn16 : w.1 ≤ 16) : ∀ (d p c : Nat), p ≤ w.1 → w.1 < p + d → c < 2 ^ p → (∀ i, i < w.2.length → (∀ q, tb (wl w.2 i) q = true → q < p) → nI (pcn (wl w.2 i &&& lN c)) = m) → f_X6_evensFrom d stn m (nI p) (lN c) = some (nI (evT w m w.1 p c)) := by
  have hn := hw.1.2.2.1
  have hl := hw.1.2.2.2.1
  intro d
  induction d with
  | zero => intro p c h1 h2; omega
  | succ d ih =>
    intro p c h1 h2 hc hI
    show f_X6_evensFrom_T (f_X6_evensFrom d) stn m (nI p) (lN c) = _
    unfold f_X6_evensFrom_T
    rw [hw.1.1]
    by_cases hpn : p = w.1
    · rw [if_pos (nI_le (by omega) (by omega)), hpn]
      have : evT w m w.1 w.1 c = 1 := by
        unfold evT
        rw [Nat.sub_self]
        have : evE w m (lN (c + 2 ^ w.1 * 0)) = true := evE_iff.mpr (fun i hi => by
          rw [Nat.mul_zero, Nat.add_zero]
          exact hI i hi (fun q hq => by rw [hpn]; exact hW.pt hn hi hq))
        show cnt _ (0 + 1) = 1
        simp only [cnt, this, if_true]
      rw [this]
      rfl
    · have hp : p < w.1 := by omega
      rw [if_neg (nI_ge hp (by omega)), if_pos (show nI p < (16 : Int32) from nI_lt (b := 16) (by omega) (by decide)), throughAt_10 hw hp, ob_s]
      simp only [lg_cmp_eq]
      rw [evT_split w m hp]
      have h2p : c < 2 ^ (p + 1) := by rw [Nat.pow_succ]; omega
      have h2q : c + 2 ^ p < 2 ^ (p + 1) := by rw [Nat.pow_succ]; omega
      by_cases hz : thrF w.2 p = 0
      · have hno : ∀ i, i < w.2.length → tb (wl w.2 i) p = false := fun i hi => by
          apply eq_false_of_ne_true
          intro z
          have := (tb_thr hl (p := p) (i := i)).mpr ⟨hi, z⟩
          rw [hz, tb_0] at this
          cases this
        rw [if_pos hz, nI_1, ih (p + 1) c (by omega) (by omega) h2p (fun i hi hq => hI i hi (fun q hqb => by
          have := hq q hqb
          rcases Nat.lt_or_ge q p with y | y
          · exact y
          · have : q = p := by omega
            subst this
            rw [hno i hi] at hqb
            cases hqb)), ob_s]
        have he : evT w m w.1 (p + 1) (c + 2 ^ p) = evT w m w.1 (p + 1) c := by
          unfold evT
          refine cnt_cong (fun k hk => ?_)
          have hb : c + 2 ^ p + 2 ^ (p + 1) * k < 2 ^ 64 := by
            have h1 : 2 ^ (p + 1) * k + 2 ^ (p + 1) ≤ 2 ^ (p + 1) * 2 ^ (w.1 - (p + 1)) := by
              rw [← Nat.mul_succ]
              exact Nat.mul_le_mul_left _ hk
            rw [← Nat.pow_add, show p + 1 + (w.1 - (p + 1)) = w.1 by omega] at h1
            have h2 : 2 ^ w.1 ≤ 2 ^ 16 := Nat.pow_le_pow_right (by decide) hn16
            have h3 : (2 : Nat) ^ 16 < 2 ^ 64 := by decide
            omega
          have hcw : ∀ i, i < w.2.length → wl w.2 i &&& lN (c + 2 ^ p + 2 ^ (p + 1) * k) = wl w.2 i &&& lN (c + 2 ^ (p + 1) * k) := fun i hi => tb_ext (fun j hj => by
            rw [tb_and, tb_and]
            cases hwj : tb (wl w.2 i) j with
            | false => rfl
            | true =>
              have hjp : j ≠ p := fun z => by rw [z, hno i hi] at hwj; cases hwj
              rw [tb_cp h2q hb, tb_cp h2p (by omega)]
              by_cases y : j < p + 1
              · rw [if_pos y, if_pos y]
                have e := tb_cp (j := j) (k := 1) hc (by omega)
                rw [Nat.mul_one, tb_lN (by omega), if_pos (by omega)] at e
                rw [e]
              · rw [if_neg y, if_neg y])
          apply Bool.eq_iff_iff.mpr
          rw [evE_iff, evE_iff]
          constructor
          · intro h i hi; rw [← hcw i hi]; exact h i hi
          · intro h i hi; rw [hcw i hi]; exact h i hi
        rw [he, show (2 : Int32) = nI 2 from rfl, pk_mul]
        congr 2
        omega
      · rw [if_neg hz]
        have hstep : ∀ c', c' < 2 ^ (p + 1) → (∀ i, i < w.2.length → (∀ q, tb (wl w.2 i) q = true → q < p) → nI (pcn (wl w.2 i &&& lN c')) = m) → evC w m p (lN c') = true → f_X6_evensFrom d stn m (nI (p + 1)) (lN c') = some (nI (evT w m w.1 (p + 1) c')) := fun c' hc' hI' hC => by
          refine ih (p + 1) c' (by omega) (by omega) hc' (fun i hi hq => ?_)
          by_cases hb : tb (wl w.2 i) p = true
          · have hC2 := allF_iff.mp hC i (by omega) (by omega)
            have ht : tb (thrF w.2 p) i = true := (tb_thr hl).mpr ⟨hi, hb⟩
            rw [ht] at hC2
            simp only [Bool.not_true, Bool.false_or, Bool.and_eq_true, Bool.not_eq_true', decide_eq_false_iff_not, decide_eq_true_eq] at hC2
            have h0 : wl w.2 i &&& (fst64 (p + 1) ^^^ (-1)) = 0 := sub_fst0 (by omega) hq
            rw [h0, pcn_zero, show nI (pcn (wl w.2 i &&& lN c')) + nI 0 = nI (pcn (wl w.2 i &&& lN c')) from Int32.add_zero _] at hC2
            exact Int32.le_antisymm (Int32.not_lt.mp hC2.1) hC2.2
          · refine hI' i hi (fun q hqb => ?_)
            have := hq q hqb
            rcases Nat.lt_or_ge q p with y | y
            · exact y
            · have : q = p := by omega
              subst this
              exact absurd hqb hb
        have hI2 : ∀ i, i < w.2.length → (∀ q, tb (wl w.2 i) q = true → q < p) → nI (pcn (wl w.2 i &&& lN (c + 2 ^ p))) = m := fun i hi hq => by
          rw [← lN_or (by omega) hc, ← hI i hi hq]
          congr 2
          refine tb_ext (fun j hj => ?_)
          rw [tb_and, tb_and, tb_or, tb_bit1 (by omega)]
          cases hwj : tb (wl w.2 i) j with
          | false => rfl
          | true => rw [decide_eq_false (by have := hq j hwj; omega), Bool.or_false]
        rw [canBe_10 hw m hp, ob_s, sh1 (by omega), lN_or (by omega) hc, canBe_10 hw m hp, ob_s]
        simp only [bnd, nI_1]
        by_cases z1 : evC w m p (lN c) = true
        · rw [if_pos z1, if_neg ne10, hstep c h2p hI z1, ob_s]
          by_cases z2 : evC w m p (lN (c + 2 ^ p)) = true
          · rw [if_pos z2, ob_s, if_neg ne10, hstep _ h2q hI2 z2, ob_s, ← nI_add]
            congr 2
            exact Int32.zero_add _
          · rw [if_neg z2, ob_s, if_pos rfl, evC_no rfl hn hl hp hn16 h2q z2, Nat.add_zero]
            congr 1
            exact Int32.zero_add _
        · rw [if_neg z1, if_pos rfl, evC_no rfl hn hl hp hn16 h2p z1, Nat.zero_add]
          by_cases z2 : evC w m p (lN (c + 2 ^ p)) = true
          · rw [if_pos z2, if_neg ne10, hstep _ h2q hI2 z2, ob_s]
            congr 1
            exact Int32.zero_add _
          · rw [if_neg z2, if_pos rfl, evC_no rfl hn hl hp hn16 h2q z2]
            rfl
theorem evens_12 (h : RWo st w.1 w.2) (m : Int32) (hn16 : w.1 ≤ 16) : lpv (f_X12_evens_20 st m) (0, 0) = some (nI (evT w m w.1 0 0)) := by
  have hl := h.2.2.2.1
  have h16 : 2 ^ w.1 ≤ 2 ^ 16 := Nat.pow_le_pow_right (by decide) hn16
  have h16b : (2 : Nat) ^ 16 = 65536 := by decide
  have h1p : 0 < 2 ^ w.1 := Nat.two_pow_pos _
  have key := lpv_for (f := f_X12_evens_20 st m) (fun k => (nI (cnt (fun k => evE w m (lN k)) k), lN k)) (2 ^ w.1) (r := nI (cnt (fun k => evE w m (lN k)) (2 ^ w.1))) (fun k hk => ?_) ?_ 0 (Nat.zero_le _)
  · have e : evT w m w.1 0 0 = cnt (fun k => evE w m (lN k)) (2 ^ w.1) := by
      unfold evT
      rw [Nat.sub_zero]
      refine cnt_cong (fun k _ => ?_)
      rw [Nat.pow_zero, Nat.one_mul, Nat.zero_add]
    rw [e]
    exact key
  · unfold f_X12_evens_20
    dsimp only
    rw [all_12 h, ob_s]
    simp only [lg_cmp_gt]
    rw [show fst64 w.1 = lN (2 ^ w.1 - 1) from rfl, if_neg (fun z => by have := (pk_lLT (by omega) (by omega)).mp z; omega), h.2.1]
    simp only [bnd, cnt]
    have e1 : lN k + 1 = lN (k + 1) := lN_1 k
    rw [e1]
    by_cases h0 : w.2.length = 0
    · rw [if_pos (by rw [h0]; rfl), nI_1]
      have : evE w m (lN k) = true := evE_iff.mpr (fun i hi => by omega)
      rw [if_pos this]
    · rw [if_neg (nI_ne0 (by omega) (by omega)), even_12 h, ob_s]
      have hev : (evW w (lN k) = m ∧ ¬ m < 0) ↔ evE w m (lN k) = true := by
        rw [evE_iff]
        unfold evW
        rw [if_neg h0]
        constructor
        · intro ⟨q1, q2⟩
          by_cases hP : evP w (lN k) = true
          · rw [if_pos hP] at q1
            intro i hi
            rcases Nat.eq_zero_or_pos i with y | y
            · rw [y]; exact q1
            · have := of_decide_eq_true (allF_iff.mp hP i (by omega) (by omega))
              rw [this]; exact q1
          · rw [if_neg hP] at q1
            exact absurd (by rw [← q1]; exact m1_lt) q2
        · intro q
          have hP : evP w (lN k) = true := allF_iff.mpr (fun i h1 h2 => decide_eq_true ((eqp _ _).mp ((q i (by omega)).trans (q 0 (by omega)).symm)))
          rw [if_pos hP]
          have := pcn_le (wl w.2 0 &&& lN k)
          exact ⟨q 0 (by omega), by rw [← q 0 (by omega)]; exact nI_pos (by omega)⟩
      by_cases hE : evE w m (lN k) = true
      · have q := hev.mpr hE
        rw [if_pos q.1, if_neg q.2, if_pos hE, nI_1]
      · rw [if_neg hE]
        by_cases q1 : evW w (lN k) = m
        · rw [if_pos q1]
          by_cases q2 : m < 0
          · rw [if_pos q2, Int32.add_zero]; rfl
          · exact absurd (hev.mp ⟨q1, q2⟩) hE
        · rw [if_neg q1, Int32.add_zero]; rfl
  · unfold f_X12_evens_20
    dsimp only
    rw [all_12 h, ob_s]
    simp only [lg_cmp_gt]
    rw [show fst64 w.1 = lN (2 ^ w.1 - 1) from rfl, if_pos ((pk_lLT (by omega) (by omega)).mpr (by omega))]
theorem q_evens (h : RWo st w.1 w.2) (hW : WFw w) (a0 : Int32) : ∃ k, (∀ stt stn, CW stn w → f_X11_evens stt stn a0 = some k) ∧ ∃ x, f_X12_evens st a0 = some (k, x) ∧ Kt st x := by
  have hn := h.2.2.1
  have h0 := h.th 0
  by_cases h16 : w.1 ≤ 16
  · refine ⟨nI (evT w a0 w.1 0 0), fun stt stn hw => ?_, oI st 2 0, ?_, Kt.thr 0⟩
    · unfold f_X11_evens f_X6_evenMany
      rw [hw.1.1, if_pos (show nI w.1 ≤ (16 : Int32) from nI_le (b := 16) h16 (by decide))]
      have := evens_10 hw hW a0 h16 20 0 0 (Nat.zero_le _) (by omega) (by decide) (fun i hi hq => by
        have h1 := (hW i hi).2
        have h2 : wl w.2 i ≠ 0 := fun z => by rw [z, pcn_zero] at h1; omega
        obtain ⟨q, -, hqb⟩ := ne0 h2
        exact absurd (hq q hqb) (by omega))
      rw [show (0 : Int32) = nI 0 from rfl, show (0 : Int64) = lN 0 from rfl, this]
      rfl
    · unfold f_X12_evens
      dsimp only [bnd]
      rw [show (oI st 2 0).1 0 = nI w.1 from h.1, if_pos (show nI w.1 ≤ (16 : Int32) from nI_le (b := 16) h16 (by decide)), evens_12 h0 a0 h16, ob_s]
  · refine ⟨-1, fun stt stn hw => ?_, oI st 2 0, ?_, Kt.thr 0⟩
    · unfold f_X11_evens f_X6_evenMany
      rw [hw.1.1, if_neg (show ¬ nI w.1 ≤ (16 : Int32) from nI_ge (a := 16) (by omega) (by omega))]
      rfl
    · unfold f_X12_evens
      dsimp only [bnd]
      rw [show (oI st 2 0).1 0 = nI w.1 from h.1, if_neg (show ¬ nI w.1 ≤ (16 : Int32) from nI_ge (a := 16) (by omega) (by omega))]
end EV
