/-! THE MATHEMATICS. Sets of numbers below 64 as Int64: tb x i says whether i is in x -/
theorem ob_s {α β : Type} (a : α) (f : α → Option β) : (some a).bind f = f a := rfl
theorem b2i_0 (b : Bool) : b2i b = 0 ↔ b = false := by cases b <;> simp [b2i]
def tb (x : Int64) (i : Nat) : Bool := x.toBitVec.getLsbD i
theorem tb_ext {x y : Int64} (h : ∀ i, i < 64 → tb x i = tb y i) : x = y := wb_inj (BitVec.eq_of_getLsbD_eq (fun i hi => h i hi))
theorem tb_big {x : Int64} {i : Nat} (h : 64 ≤ i) : tb x i = false := BitVec.getLsbD_of_ge _ _ h
theorem tb_lt {x : Int64} {i : Nat} (h : tb x i = true) : i < 64 := by
  rcases Nat.lt_or_ge i 64 with q | q
  · exact q
  · rw [tb_big q] at h; cases h
theorem tb_and (x y : Int64) (i : Nat) : tb (x &&& y) i = (tb x i && tb y i) := by
  unfold tb; rw [Int64.toBitVec_and, BitVec.getLsbD_and]
theorem tb_or (x y : Int64) (i : Nat) : tb (x ||| y) i = (tb x i || tb y i) := by
  unfold tb; rw [Int64.toBitVec_or, BitVec.getLsbD_or]
theorem tb_xor (x y : Int64) (i : Nat) : tb (x ^^^ y) i = (tb x i ^^ tb y i) := by
  unfold tb; rw [Int64.toBitVec_xor, BitVec.getLsbD_xor]
theorem tb_lN {n : Nat} (hn : n < 2 ^ 64) (i : Nat) : tb (lN n) i = n.testBit i := by
  unfold tb
  rw [BitVec.getLsbD, wb_tn hn]
theorem tb_0 (i : Nat) : tb 0 i = false := by
  have h := tb_lN (n := 0) (by decide) i
  rw [Nat.zero_testBit] at h
  exact h
theorem tb_m1 : ∀ i, i < 64 → tb (-1) i = true := by decide +kernel
theorem tb_not {x : Int64} {i : Nat} (h : i < 64) : tb (x ^^^ (-1)) i = !tb x i := by rw [tb_xor, tb_m1 i h]; cases tb x i <;> rfl
theorem tb_dif (x y : Int64) (i : Nat) : tb (x &&& (y ^^^ (-1))) i = (tb x i && !tb y i) := by
  rcases Nat.lt_or_ge i 64 with h | h
  · rw [tb_and, tb_not h]
  · rw [tb_big h, tb_big h]; rfl
/-- the set of one number -/
def bit1 (k : Nat) : Int64 := lN (2 ^ k)
theorem sh1 {k : Nat} (hk : k < 64) : (1 : Int64) <<< ((nI k).toInt64 &&& 63) = bit1 k := by
  have h := wb_shl 1 hk
  rw [Nat.one_mul] at h
  exact h
theorem tb_bit1 {k : Nat} (hk : k < 64) (i : Nat) : tb (bit1 k) i = decide (i = k) := by
  unfold bit1
  rw [tb_lN (Nat.pow_lt_pow_right (by decide) hk), Nat.testBit_two_pow]
  by_cases h : k = i
  · simp [h]
  · simp [h, Ne.symm h]
/-- the first n numbers -/
def fst64 (n : Nat) : Int64 := lN (2 ^ n - 1)
theorem tb_fst64 {n : Nat} (hn : n ≤ 64) (i : Nat) : tb (fst64 n) i = decide (i < n) := by
  unfold fst64
  rw [tb_lN (by have := Nat.pow_le_pow_right (n := 2) (by decide) hn; have : 0 < 2 ^ n := Nat.two_pow_pos n; omega), Nat.testBit_two_pow_sub_one]
theorem fst64_64 : fst64 64 = -1 := by decide +kernel
theorem fst64_0 : fst64 0 = 0 := by decide +kernel
theorem bit1_m1 (n : Nat) : bit1 n - 1 = fst64 n := by
  unfold bit1 fst64
  exact lN_sub (Nat.two_pow_pos n)
theorem tb_shr {x : Int64} {k : Nat} (hk : k < 64) (i : Nat) : tb (((x : Int64).toUInt64 >>> ((nI k).toInt64.toUInt64 &&& Int64.toUInt64 63)).toInt64) i = tb x (k + i) := by
  obtain ⟨n, hn, rfl⟩ := wb_of x
  rw [wb_shr hn hk, tb_lN (Nat.lt_of_le_of_lt (Nat.div_le_self _ _) hn), tb_lN hn, Nat.testBit_div_two_pow]
  congr 1; omega
theorem tb_shl {x : Int64} {k : Nat} (hk : k < 64) {i : Nat} (hi : i < 64) : tb (x <<< ((nI k).toInt64 &&& 63)) i = (decide (k ≤ i) && tb x (i - k)) := by
  obtain ⟨n, hn, rfl⟩ := wb_of x
  rw [wb_shl n hk, tb_lN hn, wb_mod, tb_lN (Nat.mod_lt _ (by decide)), Nat.testBit_mod_two_pow, Nat.testBit_mul_two_pow]
  simp [hi]
theorem and1 (x : Int64) : x &&& 1 = if tb x 0 then 1 else 0 := by
  apply tb_ext
  intro i hi
  rw [tb_and, show (1 : Int64) = bit1 0 from rfl, tb_bit1 (by decide)]
  by_cases h : i = 0
  · subst h
    cases tb x 0 <;> simp [tb_0, tb_bit1 (show 0 < 64 by decide)]
  · cases tb x 0 <;> simp [h, tb_0, tb_bit1 (show 0 < 64 by decide)]
theorem has_10 {x : Int64} {k : Nat} (hk : k < 64) : f_X10_has x (nI k) = some (b2i (tb x k)) := by
  unfold f_X10_has
  rw [and1, tb_shr hk]
  simp only [lg_cmp_eq, Nat.add_zero]
  cases tb x k <;> simp [b2i]
theorem sshr_0 {x : Int64} {k : Nat} (hk : k < 64) : tb (x >>> ((nI k).toInt64 &&& 63)) 0 = tb x k := by
  rw [wb_c k hk]
  unfold tb
  rw [Int64.toBitVec_shiftRight, show (lN k).toBitVec.smod 64 = BitVec.ofNat 64 k from wb_sm k hk]
  rw [BitVec.sshiftRight_eq', BitVec.getLsbD_sshiftRight, BitVec.toNat_ofNat, Nat.mod_eq_of_lt (by omega)]
  simp [hk]
theorem has_12 {x : Int64} {k : Nat} (hk : k < 64) : f_X12_has x (nI k) = some (b2i (tb x k)) := by
  unfold f_X12_has
  rw [and1, sshr_0 hk]
  simp only [lg_cmp_eq]
  cases tb x k <;> simp [b2i]
theorem bit_12 {k : Nat} (hk : k < 64) : f_X12_bit (nI k) = some (bit1 k) := by
  unfold f_X12_bit
  rw [sh1 hk]
theorem nI_lit (n : Nat) : (OfNat.ofNat n : Int32) = nI n := rfl
theorem allOf_12 {n : Nat} (hn : n ≤ 64) : f_X12_allOf (nI n) = some (fst64 n) := by
  unfold f_X12_allOf
  rw [show (64 : Int32) = nI 64 from rfl]
  by_cases h : n = 64
  · subst h
    rw [if_pos rfl, fst64_64]
  · rw [if_neg (fun z => h ((nI_eq (by omega) (by decide)).mp z)), bit_12 (by omega), ob_s, bit1_m1]
theorem first_10 {n : Nat} (hn : n ≤ 64) : f_X10_first (nI n) = some (fst64 n) := by
  unfold f_X10_first
  rw [show (0 : Int32) = nI 0 from rfl, show (64 : Int32) = nI 64 from rfl]
  by_cases h0 : n = 0
  · subst h0
    rw [if_neg (by decide), fst64_0]
  · rw [if_pos (nI_lt (by omega) (by omega))]
    by_cases h : n = 64
    · subst h
      rw [if_neg (by decide), fst64_64]
    · rw [if_pos (nI_lt (by omega) (by decide)), sh1 (by omega), bit1_m1]
/-! how many -/
def cnt (p : Nat → Bool) : Nat → Nat
  | 0 => 0
  | n + 1 => cnt p n + if p n then 1 else 0
theorem cnt_le (p : Nat → Bool) : ∀ n, cnt p n ≤ n
  | 0 => Nat.le_refl 0
  | n + 1 => by
    have := cnt_le p n
    unfold cnt
    split <;> omega
theorem cnt_cong {p q : Nat → Bool} : ∀ {n : Nat}, (∀ i, i < n → p i = q i) → cnt p n = cnt q n
  | 0, _ => rfl
  | n + 1, h => by
    unfold cnt
    rw [cnt_cong (fun i hi => h i (by omega)), h n (by omega)]
theorem cnt_0 {p : Nat → Bool} : ∀ {n : Nat}, cnt p n = 0 ↔ ∀ i, i < n → p i = false
  | 0 => ⟨fun _ i hi => by omega, fun _ => rfl⟩
  | n + 1 => by
    have ih := cnt_0 (p := p) (n := n)
    unfold cnt
    constructor
    · intro h i hi
      by_cases hp : p n = true
      · rw [if_pos hp] at h; omega
      · rw [if_neg hp] at h
        rcases Nat.lt_or_ge i n with q | q
        · exact ih.mp h i q
        · rw [show i = n by omega]
          exact Bool.eq_false_iff.mpr hp
    · intro h
      rw [ih.mpr (fun i hi => h i (by omega)), h n (by omega)]
      rfl
theorem cnt_mono {p q : Nat → Bool} : ∀ {n : Nat}, (∀ i, i < n → p i = true → q i = true) → cnt p n ≤ cnt q n
  | 0, _ => Nat.le_refl 0
  | n + 1, h => by
    have ih := cnt_mono (p := p) (q := q) (n := n) (fun i hi => h i (by omega))
    unfold cnt
    by_cases hp : p n = true
    · rw [if_pos hp, if_pos (h n (by omega) hp)]; omega
    · rw [if_neg hp]; omega
/-- one taken away -/
theorem cnt_del {p : Nat → Bool} {k : Nat} (hk : p k = true) : ∀ {n : Nat}, k < n → cnt (fun i => p i && decide (i ≠ k)) n + 1 = cnt p n
  | 0, h => by omega
  | n + 1, h => by
    unfold cnt
    by_cases hkn : k = n
    · subst hkn
      have e : cnt (fun i => p i && decide (i ≠ k)) k = cnt p k := cnt_cong (fun i hi => by simp [show i ≠ k by omega])
      rw [e, hk]
      simp
    · have ih := cnt_del hk (n := n) (by omega)
      rw [show (p n && decide (n ≠ k)) = p n by simp [show n ≠ k from fun z => hkn z.symm]]
      omega
def pcn (x : Int64) : Nat := cnt (tb x) 64
theorem pcn_le (x : Int64) : pcn x ≤ 64 := cnt_le _ _
theorem pcn_0 {x : Int64} : pcn x = 0 ↔ x = 0 := by
  unfold pcn
  rw [cnt_0]
  constructor
  · intro h
    exact tb_ext (fun i hi => by rw [h i hi, tb_0])
  · intro h i _
    rw [h, tb_0]
theorem pcn_zero : pcn 0 = 0 := pcn_0.mpr rfl
theorem ne0 {x : Int64} (h : x ≠ 0) : ∃ i, i < 64 ∧ tb x i = true := by
  false_or_by_contra
  rename_i hn
  apply h
  apply tb_ext
  intro i hi
  rw [tb_0]
  cases hb : tb x i with
  | false => rfl
  | true => exact absurd ⟨i, hi, hb⟩ hn
/-- the least number of a set -/
def lowN : Nat → Nat → Nat
  | 0, _ => 0
  | f + 1, n => if n % 2 = 1 then 0 else lowN f (n / 2) + 1
theorem clrN : ∀ (f n : Nat), 0 < n → n < 2 ^ f → ∀ i, (n &&& (n - 1)).testBit i = (n.testBit i && decide (i ≠ lowN f n)) := by
  intro f
  induction f with
  | zero => intro n h1 h2; omega
  | succ f ih =>
    intro n h0 hf i
    unfold lowN
    have e2 : n = 2 * (n / 2) + n % 2 := by omega
    by_cases ho : n % 2 = 1
    · rw [if_pos ho]
      cases i with
      | zero =>
        rw [Nat.testBit_and]
        have : (n - 1).testBit 0 = false := by simp [Nat.testBit_zero]; omega
        rw [this]; simp
      | succ i =>
        rw [Nat.testBit_and, Nat.testBit_succ, Nat.testBit_succ, show (n - 1) / 2 = n / 2 by omega]
        simp
    · rw [if_neg ho]
      have hm : 0 < n / 2 := by omega
      have hlt : n / 2 < 2 ^ f := by rw [Nat.pow_succ] at hf; omega
      cases i with
      | zero =>
        rw [Nat.testBit_and]
        have : n.testBit 0 = false := by simp [Nat.testBit_zero]; omega
        rw [this]; simp
      | succ i =>
        have h1 := ih (n / 2) hm hlt i
        rw [Nat.testBit_and] at h1
        rw [Nat.testBit_and, Nat.testBit_succ, Nat.testBit_succ, show (n - 1) / 2 = n / 2 - 1 by omega, h1]
        simp
theorem lowN_tb : ∀ (f n : Nat), 0 < n → n < 2 ^ f → n.testBit (lowN f n) = true ∧ lowN f n < f ∧ ∀ j, j < lowN f n → n.testBit j = false := by
  intro f
  induction f with
  | zero => intro n h1 h2; omega
  | succ f ih =>
    intro n h0 hf
    unfold lowN
    by_cases ho : n % 2 = 1
    · rw [if_pos ho]
      exact ⟨by simp [Nat.testBit_zero, ho], by omega, fun j hj => by omega⟩
    · rw [if_neg ho]
      have hm : 0 < n / 2 := by omega
      have hlt : n / 2 < 2 ^ f := by rw [Nat.pow_succ] at hf; omega
      obtain ⟨h1, h2, h3⟩ := ih (n / 2) hm hlt
      refine ⟨by rw [Nat.testBit_succ]; exact h1, by omega, fun j hj => ?_⟩
      cases j with
      | zero => simp [Nat.testBit_zero]; omega
      | succ j => rw [Nat.testBit_succ]; exact h3 j (by omega)
def low (x : Int64) : Nat := lowN 64 x.toBitVec.toNat
theorem low_tb {x : Int64} (h : x ≠ 0) : tb x (low x) = true ∧ low x < 64 ∧ ∀ j, j < low x → tb x j = false := by
  have h0 : 0 < x.toBitVec.toNat := by
    rcases Nat.eq_zero_or_pos x.toBitVec.toNat with q | q
    · exact absurd (wb_inj (a := x) (b := 0) (BitVec.eq_of_toNat_eq (by rw [q]; rfl))) h
    · exact q
  exact lowN_tb 64 _ h0 x.toBitVec.isLt
theorem low_eq {x : Int64} {k : Nat} (hk : tb x k = true) (h : ∀ j, j < k → tb x j = false) : low x = k := by
  have h0 : x ≠ 0 := fun z => by rw [z, tb_0] at hk; cases hk
  obtain ⟨h1, h2, h3⟩ := low_tb h0
  rcases Nat.lt_trichotomy (low x) k with q | q | q
  · rw [h _ q] at h1; cases h1
  · exact q
  · rw [h3 _ q] at hk; cases hk
theorem tb_clr {x : Int64} (h : x ≠ 0) (i : Nat) : tb (x &&& (x - 1)) i = (tb x i && decide (i ≠ low x)) := by
  have h0 : 0 < x.toBitVec.toNat := by
    rcases Nat.eq_zero_or_pos x.toBitVec.toNat with q | q
    · exact absurd (wb_inj (a := x) (b := 0) (BitVec.eq_of_toNat_eq (by rw [q]; rfl))) h
    · exact q
  have hx := x.toBitVec.isLt
  have hlo : low x = lowN 64 x.toBitVec.toNat := rfl
  obtain ⟨n, hn, e⟩ : ∃ n, n = x.toBitVec.toNat ∧ x = lN n := ⟨_, rfl, wb_inj (by rw [wb_tb]; simp)⟩
  rw [← hn] at h0 hx hlo
  rw [hlo, e, show lN n - 1 = lN (n - 1) from lN_sub h0, wb_and hx (by omega), tb_lN (Nat.lt_of_le_of_lt Nat.and_le_left hx), tb_lN hx]
  exact clrN 64 n h0 hx i
theorem pcn_clr {x : Int64} (h : x ≠ 0) : pcn (x &&& (x - 1)) + 1 = pcn x := by
  obtain ⟨h1, h2, -⟩ := low_tb h
  unfold pcn
  rw [← cnt_del h1 h2]
  congr 1
  exact cnt_cong (fun i _ => tb_clr h i)
