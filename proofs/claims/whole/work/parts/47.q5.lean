/-! questions: walks -/
def sumN (f : Nat → Nat) : Nat → Nat
  | 0 => 0
  | n + 1 => sumN f n + f n
theorem sumN_cong {f g : Nat → Nat} : ∀ {n : Nat}, (∀ i, i < n → f i = g i) → sumN f n = sumN g n := by
  intro n
  induction n with
  | zero => intro _; rfl
  | succ n ih => intro h; simp only [sumN]; rw [ih (fun i hi => h i (by omega)), h n (by omega)]
theorem sumN_0 {f : Nat → Nat} : ∀ {n : Nat}, (∀ i, i < n → f i = 0) → sumN f n = 0 := by
  intro n
  induction n with
  | zero => intro _; rfl
  | succ n ih => intro h; simp only [sumN]; rw [ih (fun i hi => h i (by omega)), h n (by omega)]
theorem sumN_out {f : Nat → Nat} {n m : Nat} (hnm : n ≤ m) (h : ∀ i, n ≤ i → i < m → f i = 0) : sumN f m = sumN f n := by
  obtain ⟨k, rfl⟩ : ∃ k, m = n + k := ⟨m - n, by omega⟩
  induction k with
  | zero => rfl
  | succ k ih =>
    show sumN f (n + k) + f (n + k) = _
    rw [ih (by omega) (fun i h1 h2 => h i h1 (by omega)), h (n + k) (by omega) (by omega), Nat.add_zero]
theorem sumN_add (f g : Nat → Nat) : ∀ n, sumN (fun i => f i + g i) n = sumN f n + sumN g n := by
  intro n
  induction n with
  | zero => rfl
  | succ n ih => simp only [sumN]; rw [ih]; omega
theorem sumN_mulr (f : Nat → Nat) (c : Nat) : ∀ n, sumN (fun i => f i * c) n = sumN f n * c := by
  intro n
  induction n with
  | zero => simp [sumN]
  | succ n ih => simp only [sumN]; rw [ih, Nat.add_mul]
theorem sumN_mull (f : Nat → Nat) (c : Nat) : ∀ n, sumN (fun i => c * f i) n = c * sumN f n := by
  intro n
  induction n with
  | zero => simp [sumN]
  | succ n ih => simp only [sumN]; rw [ih, Nat.mul_add]
theorem sumN_swap (f : Nat → Nat → Nat) (n : Nat) : ∀ m, sumN (fun i => sumN (f i) n) m = sumN (fun j => sumN (fun i => f i j) m) n := by
  intro m
  induction m with
  | zero => exact (sumN_0 (fun _ _ => rfl)).symm
  | succ m ih =>
    simp only [sumN]
    rw [ih, ← sumN_add]
theorem sumN_mod (f : Nat → Nat) (M : Nat) : ∀ n, sumN (fun i => f i % M) n % M = sumN f n % M := by
  intro n
  induction n with
  | zero => rfl
  | succ n ih =>
    simp only [sumN]
    rw [Nat.add_mod, ih, Nat.mod_mod, ← Nat.add_mod]
theorem sumN_le {f : Nat → Nat} {B : Nat} : ∀ {n : Nat}, (∀ i, i < n → f i ≤ B) → sumN f n ≤ n * B := by
  intro n
  induction n with
  | zero => intro _; exact Nat.zero_le _
  | succ n ih =>
    intro h
    have h1 := ih (fun i hi => h i (by omega))
    have h2 := h n (by omega)
    simp only [sumN]
    rw [Nat.succ_mul]
    omega
theorem sumN_del (f : Nat → Nat) {k : Nat} : ∀ {n : Nat}, k < n → sumN f n = f k + sumN (fun i => if i = k then 0 else f i) n := by
  intro n
  induction n with
  | zero => intro h; omega
  | succ n ih =>
    intro h
    simp only [sumN]
    rcases Nat.lt_or_ge k n with q | q
    · rw [ih q, if_neg (by omega)]
      omega
    · have : k = n := by omega
      subst this
      rw [if_pos rfl, sumN_cong (f := fun i => if i = k then 0 else f i) (g := f) (fun i hi => by rw [if_neg (by omega)])]
      omega
/-- a sum over a set -/
def bsum (c : Nat → Nat) (x : Int64) : Nat := sumN (fun q => if tb x q = true then c q else 0) 64
theorem bsum_0 (c : Nat → Nat) : bsum c 0 = 0 := sumN_0 (fun i _ => by rw [tb_0]; rfl)
theorem bsum_clr (c : Nat → Nat) {x : Int64} (h : x ≠ 0) : bsum c x = c (low x) + bsum c (x &&& (x - 1)) := by
  obtain ⟨h1, h2, h3⟩ := low_tb h
  unfold bsum
  rw [sumN_del _ h2, if_pos h1]
  congr 1
  refine sumN_cong (fun i hi => ?_)
  rw [tb_clr h]
  by_cases hi : i = low x
  · rw [if_pos hi]; simp [hi]
  · rw [if_neg hi]; simp [hi]
def wkS (w : Wd) (c : Nat → Nat) (p : Nat) : Nat := bsum c (nearF w.2 p)
def wk (w : Wd) (s : Nat) : Nat → Nat → Nat
  | 0, p => if p = s then 1 else 0
  | k + 1, p => wkS w (wk w s k) p
section WK
variable {st stn : OS} {w : Wd}
theorem near_pt (hW : WFw w) (hn : w.1 ≤ 64) {p o : Nat} (hp : p < 64) (h : tb (nearF w.2 p) o = true) : o < w.1 ∧ p < w.1 := by
  obtain ⟨h1, j, hj, h2, h3⟩ := (tb_near hp).mp h
  exact ⟨hW.pt hn hj h3, hW.pt hn hj h2⟩
theorem near_sym {l : List Int64} {p o : Nat} (hp : p < 64) (ho : o < 64) (h : tb (nearF l p) o = true) : tb (nearF l o) p = true := by
  obtain ⟨h1, j, hj, h2, h3⟩ := (tb_near hp).mp h
  exact (tb_near ho).mpr ⟨fun z => h1 z.symm, j, hj, h3, h2⟩
theorem wkS_out (hW : WFw w) (hn : w.1 ≤ 64) (c : Nat → Nat) {p : Nat} (hp : p < 64) (h : w.1 ≤ p) : wkS w c p = 0 := sumN_0 (fun i hi => by
  by_cases hb : tb (nearF w.2 p) i = true
  · have := (near_pt hW hn hp hb).2
    omega
  · rw [if_neg hb])
theorem wk_out (hW : WFw w) (hn : w.1 ≤ 64) {s : Nat} (hs : s < w.1) : ∀ k p, w.1 ≤ p → p < 64 → wk w s k p = 0 := by
  intro k
  cases k with
  | zero => intro p h1 h2; exact if_neg (by omega)
  | succ k => intro p h1 h2; exact wkS_out hW hn _ h2 h1
theorem wk_le {s : Nat} : ∀ k p, wk w s k p ≤ 64 ^ k := by
  intro k
  induction k with
  | zero => intro p; unfold wk; split <;> simp
  | succ k ih =>
    intro p
    have : wk w s (k + 1) p ≤ 64 * 64 ^ k := sumN_le (fun i _ => by split; exact ih i; exact Nat.zero_le _)
    rw [Nat.pow_succ, Nat.mul_comm]
    exact this
theorem walk_in {y : OS} {c : Nat → Nat} (hy : ∀ p, p < 64 → y.2.2.2 0 p = lN (c p)) (b2 : Int32) : ∀ (k t : Nat) (x : Int64) (a : Nat), t + k = 64 → pcn x ≤ k → lpv (f_X9_walkOn_28 y stn b2) (x, lN a, nI t) = some (lN (a + bsum c x)) := by
  intro k
  induction k with
  | zero =>
    intro t x a h1 h2
    have hx : x = 0 := pcn_0.mp (by omega)
    rw [hx, bsum_0]
    apply lpv_out
    unfold f_X9_walkOn_28
    dsimp only
    rw [if_pos (show (64 : Int32) ≤ nI t from nI_le (a := 64) (by omega) (by omega))]
    rfl
  | succ k ih =>
    intro t x a h1 h2
    by_cases hx : x = 0
    · rw [hx, bsum_0]
      apply lpv_out
      unfold f_X9_walkOn_28
      dsimp only
      simp only [lg_cmp_eq]
      rw [if_neg (show ¬ (64 : Int32) ≤ nI t from nI_ge (b := 64) (by omega) (by decide)), if_pos trivial]
      rfl
    · obtain ⟨h3, h4, h5⟩ := low_tb hx
      have hc := pcn_clr hx
      have e : f_X9_walkOn_28 y stn b2 (x, lN a, nI t) = some (.inl (x &&& (x - 1), lN (a + c (low x)), nI (t + 1))) := by
        unfold f_X9_walkOn_28
        dsimp only
        simp only [lg_cmp_eq]
        rw [if_neg (show ¬ (64 : Int32) ≤ nI t from nI_ge (b := 64) (by omega) (by decide)), if_neg hx, ntz_13 hx, ob_s, if_neg (show ¬ (64 : Int32) ≤ nI (low x) from nI_ge (b := 64) (by omega) (by decide)), if_pos (inb_t h4 (by omega)), nI_clamp (by omega), hy _ h4]
        simp only [bnd, nI_1, lN_add]
      rw [lpv_in e, ih (t + 1) _ _ (by omega) (by omega), bsum_clr c hx, Nat.add_assoc]
theorem walkOn_9 (hw : CW stn w) {y : OS} {c : Nat → Nat} (hy : ∀ p, p < 64 → y.2.2.2 0 p = lN (c p)) : ∃ x, f_X9_walkOn y stn = some x ∧ (∀ p, p < 64 → x.2.2.2 0 p = lN (if p < w.1 then wkS w c p else c p)) ∧ x.2.2.2 1 = y.2.2.2 1 := by
  have hn := hw.1.2.2.1
  have key := lpv_inv (f := f_X9_walkOn_2 stn) (fun i z => z.2 = nI i ∧ (∀ p, p < 64 → z.1.2.2.2 0 p = lN (c p)) ∧ z.1.2.2.2 1 = y.2.2.2 1 ∧ ∀ p, p < i → z.1.2.2.2 2 p = lN (wkS w c p)) w.1 (fun x => (∀ p, p < 64 → x.2.2.2 0 p = lN (c p)) ∧ x.2.2.2 1 = y.2.2.2 1 ∧ ∀ p, p < w.1 → x.2.2.2 2 p = lN (wkS w c p)) (fun i z hi hI => Or.inl ?_) (fun z hI => ?_) 0 (y, 0) (Nat.zero_le _) ⟨rfl, hy, rfl, fun p hp => by omega⟩
  · obtain ⟨x, e, h1, h2, h3⟩ := key
    unfold f_X9_walkOn
    rw [e, ob_s, hw.1.1, min_J9, ob_s]
    have hmin : (if (64 : Int32) < nI w.1 then (64 : Int32) else nI w.1) = nI w.1 := if_neg (show ¬ (64 : Int32) < nI w.1 from nI_nlt (b := w.1) (a := 64) hn (by decide))
    rw [hmin, if_pos]
    · refine ⟨_, rfl, fun p hp => ?_, ?_⟩
      · rw [oB_self, nI_clamp (by omega)]
        show va_cpy (x.2.2.2 2) (x.2.2.2 0) 0 0 w.1 p = _
        by_cases q : p < w.1
        · rw [if_pos q, pk_cpy_in (Nat.zero_le _) (by show p < 0 + w.1; omega)]
          show x.2.2.2 2 (0 + (p - 0)) = _
          rw [show 0 + (p - 0) = p by omega]
          exact h3 p q
        · rw [if_neg q, pk_cpy_out (Or.inr (by show 0 + w.1 ≤ p; omega))]
          exact h1 p hp
      · rw [oB_ne _ (by decide)]
        exact h2
    · unfold okc
      rw [nI_clamp (by omega)]
      exact decide_eq_true ⟨by decide, by decide, nI_pos (by omega), by show 0 + w.1 ≤ 64; omega, by show 0 + w.1 ≤ 64; omega⟩
  · obtain ⟨x, b⟩ := z
    obtain ⟨e1, e2, e3, e4⟩ := hI
    dsimp only at e1 e2 e3 e4
    subst e1
    refine ⟨(oB x 2 (vp_updL (x.2.2.2 2) i (lN (wkS w c i))), nI (i + 1)), ?_, rfl, fun p hp => ?_, ?_, fun p hp => ?_⟩
    · unfold f_X9_walkOn_2
      dsimp only
      rw [hw.1.1, if_neg (nI_ge hi (by omega)), if_neg (show ¬ (64 : Int32) ≤ nI i from nI_ge (b := 64) (by omega) (by decide)), nearAt_10 hw hi, ob_s]
      have hin := walk_in (stn := stn) e2 (nI i) 64 0 (nearF w.2 i) 0 rfl (pcn_le _)
      rw [Nat.zero_add] at hin
      rw [show ((nearF w.2 i, 0, 0) : Int64 × Int64 × Int32) = (nearF w.2 i, lN 0, nI 0) from rfl, hin, ob_s, if_pos (inb_t (by omega) (by omega)), nI_clamp (by omega)]
      simp only [bnd, nI_1]
      rfl
    · dsimp only
      rw [oB_ne _ (by decide)]
      exact e2 p hp
    · dsimp only
      rw [oB_ne _ (by decide)]
      exact e3
    · dsimp only
      rw [oB_self]
      unfold vp_updL
      by_cases q : p = i
      · rw [if_pos q, q]
      · rw [if_neg q]
        exact e4 p (by omega)
  · obtain ⟨x, b⟩ := z
    obtain ⟨e1, e2, e3, e4⟩ := hI
    dsimp only at e1 e2 e3 e4
    subst e1
    refine ⟨x, ?_, e2, e3, e4⟩
    unfold f_X9_walkOn_2
    dsimp only
    rw [hw.1.1, if_pos (nI_le (Nat.le_refl _) (by omega))]
theorem wkS_if (hW : WFw w) (hn : w.1 ≤ 64) {s : Nat} (hs : s < w.1) (j p : Nat) (hp : p < 64) : (if p < w.1 then wkS w (wk w s j) p else wk w s j p) = wk w s (j + 1) p := by
  by_cases q : p < w.1
  · rw [if_pos q]; rfl
  · rw [if_neg q, wk_out hW hn hs j p (by omega) hp, wk_out hW hn hs (j + 1) p (by omega) hp]
def wkT (w : Wd) (s a b : Nat) : Nat := sumN (fun p => wk w s a p * wk w s b p) 64
theorem wkT_shift (hW : WFw w) (hn : w.1 ≤ 64) (s a b : Nat) : wkT w s (a + 1) b = wkT w s a (b + 1) := by
  unfold wkT
  have h1 : ∀ (x y : Nat), sumN (fun p => wk w s (x + 1) p * wk w s y p) 64 = sumN (fun p => sumN (fun o => if tb (nearF w.2 p) o = true then wk w s x o * wk w s y p else 0) 64) 64 := fun x y => sumN_cong (fun p hp => by
    show sumN _ 64 * _ = _
    rw [← sumN_mulr]
    refine sumN_cong (fun o ho => ?_)
    split
    · rfl
    · rw [Nat.zero_mul])
  have h2 : sumN (fun p => wk w s a p * wk w s (b + 1) p) 64 = sumN (fun p => wk w s (b + 1) p * wk w s a p) 64 := sumN_cong (fun p _ => Nat.mul_comm _ _)
  rw [h1, h2, h1, sumN_swap]
  refine sumN_cong (fun o ho => sumN_cong (fun p hp => ?_))
  by_cases hb : tb (nearF w.2 p) o = true
  · rw [if_pos hb, if_pos (near_sym hp ho hb), Nat.mul_comm]
  · rw [if_neg hb, if_neg (fun z => hb (near_sym ho hp z))]
theorem wkT_all (hW : WFw w) (hn : w.1 ≤ 64) {s : Nat} (hs : s < w.1) : ∀ a b, wkT w s a b = wk w s (a + b) s := by
  have h0 : ∀ b, wkT w s 0 b = wk w s b s := fun b => by
    unfold wkT
    rw [sumN_del _ (show s < 64 by omega), sumN_0 (fun i hi => by
      by_cases q : i = s
      · rw [if_pos q]
      · rw [if_neg q]
        show (if i = s then 1 else 0) * _ = 0
        rw [if_neg q, Nat.zero_mul])]
    show (if s = s then 1 else 0) * _ + 0 = _
    rw [if_pos rfl, Nat.one_mul, Nat.add_zero]
  intro a
  induction a with
  | zero => intro b; rw [h0, Nat.zero_add]
  | succ a ih => intro b; rw [wkT_shift hW hn, ih, show a + (b + 1) = a + 1 + b by omega]
theorem walk_n (hw : CW stn w) (hW : WFw w) {s : Nat} (hs : s < w.1) (b3 : Int32) {N : Nat} (hb3 : b3 / 2 = nI N) (hN : N ≤ 8) {y : OS} (hy : ∀ p, p < 64 → y.2.2.2 0 p = lN (wk w s 0 p)) : ∃ x, lpv (f_X9_walksFrom_37 stn b3) (y, 0) = some x ∧ ∀ p, p < 64 → x.2.2.2 0 p = lN (wk w s N p) := by
  refine lpv_inv (f := f_X9_walksFrom_37 stn b3) (fun i z => z.2 = nI i ∧ ∀ p, p < 64 → z.1.2.2.2 0 p = lN (wk w s i p)) N (fun x => ∀ p, p < 64 → x.2.2.2 0 p = lN (wk w s N p)) (fun i z hi hI => Or.inl ?_) (fun z hI => ?_) 0 (y, 0) (Nat.zero_le _) ⟨rfl, hy⟩
  · obtain ⟨x, b⟩ := z
    obtain ⟨e1, e2⟩ := hI
    dsimp only at e1 e2
    subst e1
    obtain ⟨v, g1, g2, -⟩ := walkOn_9 hw e2
    refine ⟨(v, nI (i + 1)), ?_, rfl, fun p hp => ?_⟩
    · unfold f_X9_walksFrom_37
      dsimp only
      rw [hb3, if_neg (nI_ge hi (by omega)), g1, ob_s]
      simp only [bnd, nI_1]
    · dsimp only
      rw [g2 p hp, wkS_if hW hw.1.2.2.1 hs i p hp]
  · obtain ⟨x, b⟩ := z
    obtain ⟨e1, e2⟩ := hI
    dsimp only at e1 e2
    subst e1
    refine ⟨x, ?_, e2⟩
    unfold f_X9_walksFrom_37
    dsimp only
    rw [hb3, if_pos (nI_le (Nat.le_refl _) (by omega))]
theorem walk_sum {y : OS} {c d : Nat → Nat} (h0 : ∀ p, p < 64 → y.2.2.2 0 p = lN (d p)) (h1 : ∀ p, p < 64 → y.2.2.2 1 p = lN (c p)) : lpv (f_X9_walksFrom_89 y stn) (0, 0) = some (lN (sumN (fun p => c p * d p) 64)) := by
  refine lpv_for (f := f_X9_walksFrom_89 y stn) (fun i => (lN (sumN (fun p => c p * d p) i), nI i)) 64 (fun i hi => ?_) ?_ 0 (Nat.zero_le _)
  · unfold f_X9_walksFrom_89
    dsimp only
    rw [if_neg (show ¬ (64 : Int32) ≤ nI i from nI_ge (b := 64) hi (by decide)), if_pos (inb_t hi (by omega)), nI_clamp (by omega), h0 i hi, h1 i hi, lN_mul, lN_add]
    simp only [bnd, nI_1]
    rfl
  · unfold f_X9_walksFrom_89
    dsimp only
    rw [if_pos (show (64 : Int32) ≤ nI 64 from nI_le (a := 64) (by omega) (by decide))]
theorem k_half : ∀ k, k ≤ 8 → nI k / 2 = nI (k / 2) ∧ nI k - nI k / 2 * 2 = nI (k % 2) := by decide +kernel
theorem walksFrom_9 (hw : CW stn w) (hW : WFw w) {s k : Nat} (hs : s < w.1) (hk : k ≤ 8) (y : OS) : ∃ x, f_X9_walksFrom y stn (nI s) (nI k) = some (lN (wk w s k s), x) := by
  have hn := hw.1.2.2.1
  obtain ⟨k1, k2⟩ := k_half k hk
  have key := lpv_inv (f := f_X9_walksFrom_3 stn (nI s) (nI k)) (fun i z => z.2 = nI i ∧ ∀ p, p < i → z.1.2.2.2 0 p = lN (wk w s 0 p)) 64 (fun x => ∀ p, p < 64 → x.2.2.2 0 p = lN (wk w s 0 p)) (fun i z hi hI => Or.inl ?_) (fun z hI => ?_) 0 (y, 0) (Nat.zero_le _) ⟨rfl, fun p hp => by omega⟩
  · obtain ⟨x0, e0, h0⟩ := key
    obtain ⟨x1, e1, h1⟩ := walk_n hw hW hs (nI k) k1 (by omega) h0
    unfold f_X9_walksFrom
    rw [e0, ob_s, e1, ob_s, if_pos (show okc 0 0 64 64 64 = true by decide)]
    dsimp only [bnd]
    have hh : ∀ p, p < 64 → (oB x1 1 (va_cpy (x1.2.2.2 0) (x1.2.2.2 1) (0 : Int32).toNatClampNeg (0 : Int32).toNatClampNeg (64 : Int32).toNatClampNeg)).2.2.2 1 p = lN (wk w s (k / 2) p) := fun p hp => by
      rw [oB_self]
      show va_cpy (x1.2.2.2 0) (x1.2.2.2 1) 0 0 64 p = _
      rw [pk_cpy_in (Nat.zero_le _) (by show p < 0 + 64; omega)]
      show x1.2.2.2 0 (0 + (p - 0)) = _
      rw [show 0 + (p - 0) = p by omega]
      exact h1 p hp
    have h0' : ∀ p, p < 64 → (oB x1 1 (va_cpy (x1.2.2.2 0) (x1.2.2.2 1) (0 : Int32).toNatClampNeg (0 : Int32).toNatClampNeg (64 : Int32).toNatClampNeg)).2.2.2 0 p = lN (wk w s (k / 2) p) := fun p hp => by
      rw [oB_ne _ (by decide)]
      exact h1 p hp
    rw [k2]
    rcases Nat.mod_two_eq_zero_or_one k with q | q
    · rw [q, if_neg (by decide), walk_sum h0' hh, ob_s]
      rw [show sumN (fun p => wk w s (k / 2) p * wk w s (k / 2) p) 64 = wkT w s (k / 2) (k / 2) from rfl, wkT_all hW hn hs, show k / 2 + k / 2 = k by omega]
      exact ⟨_, rfl⟩
    · obtain ⟨x2, e2, g2, g3⟩ := walkOn_9 hw h0'
      rw [q, if_pos (by decide), e2, ob_s, walk_sum (c := wk w s (k / 2)) (d := wk w s (k / 2 + 1)) (fun p hp => by rw [g2 p hp, wkS_if hW hn hs _ p hp]) (fun p hp => by rw [g3]; exact hh p hp), ob_s]
      rw [show sumN (fun p => wk w s (k / 2) p * wk w s (k / 2 + 1) p) 64 = wkT w s (k / 2) (k / 2 + 1) from rfl, wkT_all hW hn hs, show k / 2 + (k / 2 + 1) = k by omega]
      exact ⟨_, rfl⟩
  · obtain ⟨x, b⟩ := z
    obtain ⟨e1, e2⟩ := hI
    dsimp only at e1 e2
    subst e1
    refine ⟨(oB x 0 (vp_updL (x.2.2.2 0) i (lN (wk w s 0 i))), nI (i + 1)), ?_, rfl, fun p hp => ?_⟩
    · unfold f_X9_walksFrom_3
      dsimp only
      rw [if_neg (show ¬ (64 : Int32) ≤ nI i from nI_ge (b := 64) hi (by decide)), if_pos (inb_t hi (by omega)), nI_clamp (by omega)]
      simp only [bnd, nI_1]
      by_cases q : i = s
      · rw [if_pos (congrArg nI q)]
        simp only [wk, if_pos q]
        rfl
      · rw [if_neg (fun z => q ((nI_eq (by omega) (by omega)).mp z)), if_pos (inb_t (by omega) (by omega))]
        simp only [wk, if_neg q]
        rfl
    · dsimp only
      rw [oB_self]
      unfold vp_updL
      by_cases q : p = i
      · rw [if_pos q, q]
      · rw [if_neg q]
        exact e2 p (by omega)
  · obtain ⟨x, b⟩ := z
    obtain ⟨e1, e2⟩ := hI
    dsimp only at e1 e2
    subst e1
    refine ⟨x, ?_, e2⟩
    unfold f_X9_walksFrom_3
    dsimp only
    rw [if_pos (show (64 : Int32) ≤ nI 64 from nI_le (a := 64) (by omega) (by decide))]
def wkA (w : Wd) (k : Nat) : Nat := sumN (fun s => wk w s k s) w.1
theorem wkA_lt (hn : w.1 ≤ 64) {k : Nat} (hk : k ≤ 8) : wkA w k < 2 ^ 63 := by
  have h1 : wkA w k ≤ w.1 * 64 ^ k := sumN_le (fun i _ => wk_le k i)
  have h2 : w.1 * 64 ^ k ≤ 64 * 64 ^ k := Nat.mul_le_mul_right _ hn
  have h3 : (64 : Nat) ^ k ≤ 64 ^ 8 := Nat.pow_le_pow_right (by decide) hk
  have h4 : 64 * (64 : Nat) ^ 8 < 2 ^ 63 := by decide
  omega
theorem walks_9 (hw : CW stn w) (hW : WFw w) {k : Nat} (hk : k ≤ 8) (y : OS) : ∃ x, f_X9_closedWalks y stn (nI k) = some (nI (wkA w k % 1000000007), x) := by
  have hn := hw.1.2.2.1
  have key := lpv_inv (f := f_X9_closedWalks_5 stn (nI k)) (fun i z => z.2.2 = nI i ∧ z.2.1 = lN (sumN (fun s => wk w s k s) i)) w.1 (fun x => x.2 = lN (wkA w k)) (fun i z hi hI => Or.inl ?_) (fun z hI => ?_) 0 (y, 0, 0) (Nat.zero_le _) ⟨rfl, rfl⟩
  · obtain ⟨⟨x, v⟩, e, h⟩ := key
    have h : v = lN (wkA w k) := h
    subst h
    unfold f_X9_closedWalks
    rw [e, ob_s]
    refine ⟨x, ?_⟩
    dsimp only
    rw [show (1000000007 : Int64) = lN 1000000007 from rfl, pk_lRem (wkA_lt hn hk) (by decide) (by decide), lN_i]
  · obtain ⟨x, b, c⟩ := z
    obtain ⟨e1, e2⟩ := hI
    dsimp only at e1 e2
    subst e1 e2
    obtain ⟨v, g⟩ := walksFrom_9 hw hW hi hk x
    refine ⟨(v, lN (sumN (fun s => wk w s k s) (i + 1)), nI (i + 1)), ?_, rfl, rfl⟩
    unfold f_X9_closedWalks_5
    dsimp only
    rw [hw.1.1, if_neg (nI_ge hi (by omega)), g, ob_s]
    simp only [bnd, nI_1, lN_add]
    rfl
  · obtain ⟨x, b, c⟩ := z
    obtain ⟨e1, e2⟩ := hI
    dsimp only at e1 e2
    subst e1 e2
    refine ⟨(x, lN (wkA w k)), ?_, rfl⟩
    unfold f_X9_closedWalks_5
    dsimp only
    rw [hw.1.1, if_pos (nI_le (Nat.le_refl _) (by omega))]
    rfl
end WK
/-! the reference's walks -/
section WKR
variable {st : OS} {w : Wd}
abbrev Kw : OS → OS → Prop := Keep (inL [0, 1, 2, 5, 13, 14, 44, 45]) (inL [4, 40, 41, 42, 43, 46, 47, 49, 50, 51]) (inL [3, 20, 38, 39, 48, 52])
theorem Kw.p {x y : OS} (h : Kw x y) : Kp x y := Keep.mono h (inL_sub (by decide)) (inL_sub (by decide)) (inL_sub (by decide))
theorem RN.kw {x y : OS} (h : RN x w) (k : Kw x y) : RN y w := ⟨h.1.kp k.p, fun p hp => by rw [k.2.2 20 rfl]; exact h.2 p hp⟩
theorem kw25 {x : OS} {f : Nat → Int64} : Kw x (oB x 25 f) := Keep.rf.oB rfl
theorem kw26 {x : OS} {f : Nat → Int64} : Kw x (oB x 26 f) := Keep.rf.oB rfl
abbrev MM : Nat := 1000000007
theorem r_inner {y : OS} (hy : RN y w) (b1 : Int32) (b2 : Int64) (b4 b5 : Int32) {c : Nat → Nat} (hc : ∀ p, p < w.1 → y.2.2.2 25 p = lN (c p)) {p : Nat} (hp : p < w.1) (h0 : y.2.2.2 26 p = 0) : ∃ x, lpv (f_X12_walks_117 b1 b2 b4 b5 (nI p)) (y, 0) = some x ∧ Kw y x ∧ x.2.2.2 25 = y.2.2.2 25 ∧ (∀ q, q ≠ p → x.2.2.2 26 q = y.2.2.2 26 q) ∧ x.2.2.2 26 p = lN (sumN (fun o => if tb (nearF w.2 p) o = true then c o else 0) w.1) := by
  have hn := hy.1.2.2.1
  refine lpv_inv (f := f_X12_walks_117 b1 b2 b4 b5 (nI p)) (fun i z => z.2 = nI i ∧ Kw y z.1 ∧ z.1.2.2.2 25 = y.2.2.2 25 ∧ (∀ q, q ≠ p → z.1.2.2.2 26 q = y.2.2.2 26 q) ∧ z.1.2.2.2 26 p = lN (sumN (fun o => if tb (nearF w.2 p) o = true then c o else 0) i)) w.1 _ (fun i z hi hI => Or.inl ?_) (fun z hI => ?_) 0 (y, 0) (Nat.zero_le _) ⟨rfl, Keep.rf, rfl, fun _ _ => rfl, h0⟩
  · obtain ⟨x, b⟩ := z
    obtain ⟨e1, e2, e3, e4, e5⟩ := hI
    dsimp only at e1 e2 e3 e4 e5
    subst e1
    have hx := hy.kw e2
    have hup : ∀ v, (oB x 26 (vp_updL (x.2.2.2 26) p v)).2.2.2 26 p = v := fun v => by rw [oB_self]; exact if_pos rfl
    have hun : ∀ v q, q ≠ p → (oB x 26 (vp_updL (x.2.2.2 26) p v)).2.2.2 26 q = y.2.2.2 26 q := fun v q hq => by rw [oB_self]; exact (if_neg hq).trans (e4 q hq)
    have h25 : ∀ v, (oB x 26 (vp_updL (x.2.2.2 26) p v)).2.2.2 25 = y.2.2.2 25 := fun v => by rw [oB_ne _ (by decide)]; exact e3
    cases hb : tb (nearF w.2 p) i with
    | false =>
      refine ⟨(oB x 26 (vp_updL (x.2.2.2 26) p (x.2.2.2 26 p + 0)), nI (i + 1)), ?_, rfl, Keep.tr e2 kw26, h25 _, hun _, ?_⟩
      · unfold f_X12_walks_117
        dsimp only
        rw [hx.1.1, if_neg (nI_ge hi (by omega)), if_pos (inb_t (by omega) (by omega)), nI_clamp (by omega), hx.2 p hp, has_12 (by omega), ob_s, hb, if_pos b2f]
        simp only [bnd, nI_1]
      · dsimp only
        rw [hup, e5, Int64.add_zero]
        simp only [sumN, hb]
        rfl
    | true =>
      refine ⟨(oB x 26 (vp_updL (x.2.2.2 26) p (x.2.2.2 26 p + x.2.2.2 25 i)), nI (i + 1)), ?_, rfl, Keep.tr e2 kw26, h25 _, hun _, ?_⟩
      · unfold f_X12_walks_117
        dsimp only
        rw [hx.1.1, if_neg (nI_ge hi (by omega)), if_pos (inb_t (by omega) (by omega)), nI_clamp (by omega), hx.2 p hp, has_12 (by omega), ob_s, hb, if_neg b2t, if_pos (inb_t (by omega) (by omega)), nI_clamp (by omega)]
        simp only [bnd, nI_1]
      · dsimp only
        rw [hup, e5, e3, hc i hi, lN_add]
        simp only [sumN, hb, if_true]
  · obtain ⟨x, b⟩ := z
    obtain ⟨e1, e2, e3, e4, e5⟩ := hI
    dsimp only at e1 e2 e3 e4 e5
    subst e1
    refine ⟨x, ?_, e2, e3, e4, e5⟩
    unfold f_X12_walks_117
    dsimp only
    rw [(hy.kw e2).1.1, if_pos (nI_le (Nat.le_refl _) (by omega))]
theorem r_then {y : OS} (hy : RN y w) (b1 : Int32) (b2 : Int64) (b4 b5 : Int32) {c : Nat → Nat} (hc : ∀ p, p < w.1 → y.2.2.2 25 p = lN (c p)) : ∃ x, lpv (f_X12_walks_97 b1 b2 b4 b5) (y, 0) = some x ∧ Kw y x ∧ ∀ p, p < w.1 → x.2.2.2 26 p = lN (sumN (fun o => if tb (nearF w.2 p) o = true then c o else 0) w.1) := by
  have hn := hy.1.2.2.1
  refine lpv_inv (f := f_X12_walks_97 b1 b2 b4 b5) (fun i z => z.2 = nI i ∧ Kw y z.1 ∧ (∀ p, p < w.1 → z.1.2.2.2 25 p = lN (c p)) ∧ ∀ p, p < i → z.1.2.2.2 26 p = lN (sumN (fun o => if tb (nearF w.2 p) o = true then c o else 0) w.1)) w.1 _ (fun i z hi hI => Or.inl ?_) (fun z hI => ?_) 0 (y, 0) (Nat.zero_le _) ⟨rfl, Keep.rf, hc, fun p hp => by omega⟩
  · obtain ⟨x, b⟩ := z
    obtain ⟨e1, e2, e3, e4⟩ := hI
    dsimp only at e1 e2 e3 e4
    subst e1
    have hx := hy.kw e2
    have k1 : Kw x (oB x 26 (vp_updL (x.2.2.2 26) i 0)) := kw26
    obtain ⟨v, g1, g2, g3, g4, g5⟩ := r_inner (hx.kw k1) b1 b2 b4 b5 (c := c) (fun p hp => by rw [oB_ne _ (by decide)]; exact e3 p hp) hi (by rw [oB_self]; exact if_pos rfl)
    refine ⟨(v, nI (i + 1)), ?_, rfl, Keep.tr e2 (Keep.tr k1 g2), fun p hp => ?_, fun p hp => ?_⟩
    · unfold f_X12_walks_97
      dsimp only [bnd]
      rw [hx.1.1, if_neg (nI_ge hi (by omega)), if_pos (inb_t (by omega) (by omega)), nI_clamp (by omega), g1, ob_s, nI_1]
    · dsimp only
      rw [g3, oB_ne _ (by decide)]
      exact e3 p hp
    · dsimp only
      by_cases q : p = i
      · rw [q]; exact g5
      · rw [g4 p q, oB_self]
        exact (if_neg q).trans (e4 p (by omega))
  · obtain ⟨x, b⟩ := z
    obtain ⟨e1, e2, e3, e4⟩ := hI
    dsimp only at e1 e2 e3 e4
    subst e1
    refine ⟨x, ?_, e2, e4⟩
    unfold f_X12_walks_97
    dsimp only
    rw [(hy.kw e2).1.1, if_pos (nI_le (Nat.le_refl _) (by omega))]
theorem r_now {y : OS} (hy : RN y w) (b1 : Int32) (b2 : Int64) (b4 b5 : Int32) {c : Nat → Nat} (hlt : ∀ p, p < w.1 → c p < 2 ^ 63) (hc : ∀ p, p < w.1 → y.2.2.2 26 p = lN (c p)) : ∃ x, lpv (f_X12_walks_177 b1 b2 b4 b5) (y, 0) = some x ∧ Kw y x ∧ ∀ p, p < w.1 → x.2.2.2 25 p = lN (c p % MM) := by
  have hn := hy.1.2.2.1
  refine lpv_inv (f := f_X12_walks_177 b1 b2 b4 b5) (fun i z => z.2 = nI i ∧ Kw y z.1 ∧ (∀ p, p < w.1 → z.1.2.2.2 26 p = lN (c p)) ∧ ∀ p, p < i → z.1.2.2.2 25 p = lN (c p % MM)) w.1 _ (fun i z hi hI => Or.inl ?_) (fun z hI => ?_) 0 (y, 0) (Nat.zero_le _) ⟨rfl, Keep.rf, hc, fun p hp => by omega⟩
  · obtain ⟨x, b⟩ := z
    obtain ⟨e1, e2, e3, e4⟩ := hI
    dsimp only at e1 e2 e3 e4
    subst e1
    have hx := hy.kw e2
    refine ⟨(oB x 25 (vp_updL (x.2.2.2 25) i (lN (c i % MM))), nI (i + 1)), ?_, rfl, Keep.tr e2 kw25, fun p hp => ?_, fun p hp => ?_⟩
    · unfold f_X12_walks_177
      dsimp only [bnd]
      rw [hx.1.1, if_neg (nI_ge hi (by omega)), if_pos (inb_t (by omega) (by omega)), nI_clamp (by omega), e3 i hi, show (1000000007 : Int64) = lN MM from rfl, pk_lRem (hlt i hi) (by decide) (by decide), nI_1]
    · dsimp only
      rw [oB_ne _ (by decide)]
      exact e3 p hp
    · dsimp only
      rw [oB_self]
      unfold vp_updL
      by_cases q : p = i
      · rw [if_pos q, q]
      · rw [if_neg q]; exact e4 p (by omega)
  · obtain ⟨x, b⟩ := z
    obtain ⟨e1, e2, e3, e4⟩ := hI
    dsimp only at e1 e2 e3 e4
    subst e1
    refine ⟨x, ?_, e2, e4⟩
    unfold f_X12_walks_177
    dsimp only
    rw [(hy.kw e2).1.1, if_pos (nI_le (Nat.le_refl _) (by omega))]
theorem wk_mod (hW : WFw w) (hn : w.1 ≤ 64) (s j p : Nat) (hp : p < 64) : sumN (fun o => if tb (nearF w.2 p) o = true then wk w s j o % MM else 0) w.1 % MM = wk w s (j + 1) p % MM := by
  have e : wk w s (j + 1) p = sumN (fun o => if tb (nearF w.2 p) o = true then wk w s j o else 0) w.1 := sumN_out hn (fun i h1 h2 => by
    by_cases hb : tb (nearF w.2 p) i = true
    · have := (near_pt hW hn hp hb).1
      omega
    · rw [if_neg hb])
  rw [e, ← sumN_mod (fun o => if tb (nearF w.2 p) o = true then wk w s j o else 0)]
  congr 1
  refine sumN_cong (fun o _ => ?_)
  split <;> rfl
theorem r_steps (hW : WFw w) {y : OS} (hy : RN y w) (b2 : Int64) {s k : Nat} (hs : s < w.1) (hk : k ≤ 8) (hc : ∀ p, p < w.1 → y.2.2.2 25 p = lN (wk w s 0 p % MM)) : ∃ x, lpv (f_X12_walks_88 (nI k) b2 (nI s)) (y, 0) = some x ∧ Kw y x ∧ ∀ p, p < w.1 → x.2.2.2 25 p = lN (wk w s k p % MM) := by
  have hn := hy.1.2.2.1
  refine lpv_inv (f := f_X12_walks_88 (nI k) b2 (nI s)) (fun i z => z.2 = nI i ∧ Kw y z.1 ∧ ∀ p, p < w.1 → z.1.2.2.2 25 p = lN (wk w s i p % MM)) k _ (fun i z hi hI => Or.inl ?_) (fun z hI => ?_) 0 (y, 0) (Nat.zero_le _) ⟨rfl, Keep.rf, hc⟩
  · obtain ⟨x, b⟩ := z
    obtain ⟨e1, e2, e3⟩ := hI
    dsimp only at e1 e2 e3
    subst e1
    have hx := hy.kw e2
    obtain ⟨v, g1, g2, g3⟩ := r_then hx (nI k) b2 (nI s) (nI i) e3
    obtain ⟨u, g4, g5, g6⟩ := r_now (hx.kw g2) (nI k) b2 (nI s) (nI i) (fun p hp => by
      have : sumN (fun o => if tb (nearF w.2 p) o = true then wk w s i o % MM else 0) w.1 ≤ w.1 * MM := sumN_le (fun o _ => by
        split
        · exact Nat.le_of_lt (Nat.mod_lt _ (by decide))
        · exact Nat.zero_le _)
      have h2 : w.1 * MM ≤ 64 * MM := Nat.mul_le_mul_right _ hn
      have h3 : 64 * MM < 2 ^ 63 := by decide
      omega) g3
    refine ⟨(u, nI (i + 1)), ?_, rfl, Keep.tr e2 (Keep.tr g2 g5), fun p hp => ?_⟩
    · unfold f_X12_walks_88
      dsimp only [bnd]
      rw [if_neg (nI_ge hi (by omega)), g1, ob_s, g4, ob_s, nI_1]
    · dsimp only
      rw [g6 p hp, wk_mod hW hn s i p (by omega)]
  · obtain ⟨x, b⟩ := z
    obtain ⟨e1, e2, e3⟩ := hI
    dsimp only at e1 e2 e3
    subst e1
    refine ⟨x, ?_, e2, e3⟩
    unfold f_X12_walks_88
    dsimp only
    rw [if_pos (nI_le (Nat.le_refl _) (by omega))]
theorem r_start {y : OS} (hy : RN y w) (b1 : Int32) (b2 : Int64) {s : Nat} (hs : s < w.1) : ∃ x, lpv (f_X12_walks_51 b1 b2 (nI s)) (y, 0) = some x ∧ Kw y x ∧ ∀ p, p < w.1 → x.2.2.2 25 p = lN (wk w s 0 p % MM) := by
  have hn := hy.1.2.2.1
  have hw0 : ∀ p, wk w s 0 p % MM = wk w s 0 p := fun p => by unfold wk; split <;> rfl
  refine lpv_inv (f := f_X12_walks_51 b1 b2 (nI s)) (fun i z => z.2 = nI i ∧ Kw y z.1 ∧ ∀ p, p < i → z.1.2.2.2 25 p = lN (wk w s 0 p % MM)) w.1 _ (fun i z hi hI => Or.inl ?_) (fun z hI => ?_) 0 (y, 0) (Nat.zero_le _) ⟨rfl, Keep.rf, fun p hp => by omega⟩
  · obtain ⟨x, b⟩ := z
    obtain ⟨e1, e2, e3⟩ := hI
    dsimp only at e1 e2 e3
    subst e1
    have hx := hy.kw e2
    refine ⟨(oB x 25 (vp_updL (x.2.2.2 25) i (lN (wk w s 0 i))), nI (i + 1)), ?_, rfl, Keep.tr e2 kw25, fun p hp => ?_⟩
    · unfold f_X12_walks_51
      dsimp only [bnd]
      rw [hx.1.1, if_neg (nI_ge hi (by omega)), if_pos (inb_t (by omega) (by omega)), nI_clamp (by omega), nI_1]
      by_cases q : i = s
      · rw [if_pos (congrArg nI q)]
        simp only [wk, if_pos q]
        rfl
      · rw [if_neg (fun z => q ((nI_eq (by omega) (by omega)).mp z)), if_pos (inb_t (by omega) (by omega))]
        simp only [wk, if_neg q]
        rfl
    · dsimp only
      rw [oB_self]
      unfold vp_updL
      by_cases q : p = i
      · rw [if_pos q, q, hw0]
      · rw [if_neg q]; exact e3 p (by omega)
  · obtain ⟨x, b⟩ := z
    obtain ⟨e1, e2, e3⟩ := hI
    dsimp only at e1 e2 e3
    subst e1
    refine ⟨x, ?_, e2, e3⟩
    unfold f_X12_walks_51
    dsimp only
    rw [(hy.kw e2).1.1, if_pos (nI_le (Nat.le_refl _) (by omega))]
theorem walks_12 (hW : WFw w) {y : OS} (hy : RN y w) {k : Nat} (hk : k ≤ 8) : ∃ x v, lpv (f_X12_walks_39 (nI k)) (y, 0, 0) = some (x, v) ∧ Kw y x ∧ ((v - v / 1000000007 * 1000000007 : Int64).toInt32) = nI (wkA w k % 1000000007) := by
  have hn := hy.1.2.2.1
  have key := lpv_inv (f := f_X12_walks_39 (nI k)) (fun i z => z.2.2 = nI i ∧ Kw y z.1 ∧ z.2.1 = lN (sumN (fun s => wk w s k s % MM) i)) w.1 (fun r => Kw y r.1 ∧ r.2 = lN (sumN (fun s => wk w s k s % MM) w.1)) (fun i z hi hI => Or.inl ?_) (fun z hI => ?_) 0 (y, 0, 0) (Nat.zero_le _) ⟨rfl, Keep.rf, rfl⟩
  · obtain ⟨⟨x, v⟩, e, h1, h2⟩ := key
    refine ⟨x, v, e, h1, ?_⟩
    have h2 : v = _ := h2
    subst h2
    have hb : sumN (fun s => wk w s k s % MM) w.1 < 2 ^ 63 := by
      have : sumN (fun s => wk w s k s % MM) w.1 ≤ w.1 * MM := sumN_le (fun o _ => Nat.le_of_lt (Nat.mod_lt _ (by decide)))
      have h2 : w.1 * MM ≤ 64 * MM := Nat.mul_le_mul_right _ hn
      have h3 : 64 * MM < 2 ^ 63 := by decide
      omega
    rw [show (1000000007 : Int64) = lN MM from rfl, pk_lRem hb (by decide) (by decide), lN_i, sumN_mod]
    rfl
  · obtain ⟨x, b, c⟩ := z
    obtain ⟨e1, e2, e3⟩ := hI
    dsimp only at e1 e2 e3
    subst e1 e3
    have hx := hy.kw e2
    obtain ⟨u, g1, g2, g3⟩ := r_start hx (nI k) (lN (sumN (fun s => wk w s k s % MM) i)) hi
    obtain ⟨v, g4, g5, g6⟩ := r_steps hW (hx.kw g2) (lN (sumN (fun s => wk w s k s % MM) i)) hi hk g3
    refine ⟨(v, lN (sumN (fun s => wk w s k s % MM) (i + 1)), nI (i + 1)), ?_, rfl, Keep.tr e2 (Keep.tr g2 g5), rfl⟩
    unfold f_X12_walks_39
    dsimp only
    rw [hx.1.1, if_neg (nI_ge hi (by omega)), g1, ob_s, g4, ob_s, if_pos (inb_t (by omega) (by omega)), nI_clamp (by omega), g6 i hi, lN_add]
    simp only [bnd, nI_1]
    rfl
  · obtain ⟨x, b, c⟩ := z
    obtain ⟨e1, e2, e3⟩ := hI
    dsimp only at e1 e2 e3
    subst e1 e3
    refine ⟨(x, lN (sumN (fun s => wk w s k s % MM) w.1)), ?_, e2, rfl⟩
    unfold f_X12_walks_39
    dsimp only
    rw [(hy.kw e2).1.1, if_pos (nI_le (Nat.le_refl _) (by omega))]
theorem q_walks (h : RWo st w.1 w.2) (hW : WFw w) (a0 : Int32) : ∃ k : Nat ⊕ Int32, (∀ stt stn scr, CW stn w → ∃ x, f_X11_walks stt stn scr a0 = some (match k with | .inl j => .inl j | .inr v => .inr (v, x))) ∧ ∃ v x, f_X12_walks st a0 = some (v, x) ∧ Kt st x ∧ QA 1 k v x := by
  have hw9 := within_12 a0 (n := 9) (by decide)
  rw [show (((nI 9) - 1 : Int32).toInt64) = 8 by decide +kernel] at hw9
  rcases out_or (i := a0) (n := 9) with h1 | ⟨k, rfl, hk⟩
  · refine ⟨.inl 1, fun stt stn scr hw => ⟨scr, ?_⟩, 0, oI st 2 1, ?_, Kt.thr 1, Or.inl ⟨rfl, th_v⟩⟩
    · unfold f_X11_walks
      by_cases h2 : a0 < 0
      · rw [if_pos h2]
      · rw [if_neg h2, if_neg]
        intro z
        exact absurd (Int32.le_trans (h1.resolve_left h2) z) (by decide)
    · unfold f_X12_walks
      rw [hw9, if_pos h1, ob_s, if_pos rfl]
      dsimp only [bnd]
      rw [th_v, if_neg (by decide)]
  · have h1 := in_not (n := 9) (by decide) hk
    obtain ⟨y, ey, ky, hy⟩ := layN (h.th 0)
    obtain ⟨x, v, e, kx, hv⟩ := walks_12 hW hy (k := k) (by omega)
    have hk2 : Kp (oI st 2 0) x := Keep.tr ky kx.p
    refine ⟨.inr (nI (wkA w k % 1000000007)), fun stt stn scr hw => ?_, nI (wkA w k % 1000000007), x, ?_, Kt.p hk2, Or.inr ⟨rfl, hk2.v⟩⟩
    · obtain ⟨u, hu⟩ := walks_9 hw hW (k := k) (by omega) scr
      refine ⟨u, ?_⟩
      unfold f_X11_walks
      rw [if_neg (nI_pos (by omega)), if_pos (show nI k ≤ (8 : Int32) from nI_le (b := 8) (by omega) (by decide)), hu, ob_s]
    · unfold f_X12_walks
      rw [hw9, if_neg h1, ob_s, if_neg ne10]
      dsimp only [bnd]
      rw [th_v, if_pos (by decide), ey, ob_s, e, ob_s]
      dsimp only
      rw [hv]
end WKR
