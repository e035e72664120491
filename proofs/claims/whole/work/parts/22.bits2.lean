theorem ones_12 (x : Int64) : f_X12_ones x = some (nI (pcn x)) := by
  have key : ∀ (n c : Nat) (x : Int64), pcn x = n → lpv f_X12_ones_4 (nI c, x) = some (nI (c + n)) := by
    intro n
    induction n with
    | zero =>
      intro c x hx
      apply lpv_out
      unfold f_X12_ones_4
      rw [pcn_0] at hx
      subst hx
      rfl
    | succ n ih =>
      intro c x hx
      have h0 : x ≠ 0 := fun z => by rw [z, pcn_zero] at hx; omega
      have h1 := pcn_clr h0
      rw [lpv_in (s' := (nI (c + 1), x &&& (x - 1))) (by
        show (if lg_cmp x 0 = 0 then _ else _) = _
        rw [if_neg (fun z => h0 ((lg_cmp_eq x 0).mp z))]
        simp only [bnd, nI_1])]
      rw [ih (c + 1) _ (by omega)]
      congr 2; omega
  unfold f_X12_ones
  rw [show (0 : Int32) = nI 0 from rfl, key _ 0 x rfl, ob_s, Nat.zero_add]
/-! trailing zeros -/
theorem predN : ∀ (f n : Nat), 0 < n → n < 2 ^ f → ∀ i, (n - 1).testBit i = if i < lowN f n then true else if i = lowN f n then false else n.testBit i := by
  intro f
  induction f with
  | zero => intro n h1 h2; omega
  | succ f ih =>
    intro n h0 hf i
    unfold lowN
    by_cases ho : n % 2 = 1
    · rw [if_pos ho, if_neg (by omega)]
      cases i with
      | zero => rw [if_pos rfl]; simp [Nat.testBit_zero]; omega
      | succ i => rw [if_neg (by omega), Nat.testBit_succ, Nat.testBit_succ, show (n - 1) / 2 = n / 2 by omega]
    · rw [if_neg ho]
      have hm : 0 < n / 2 := by omega
      have hlt : n / 2 < 2 ^ f := by rw [Nat.pow_succ] at hf; omega
      cases i with
      | zero => rw [if_pos (by omega)]; simp [Nat.testBit_zero]; omega
      | succ i =>
        rw [Nat.testBit_succ, Nat.testBit_succ, show (n - 1) / 2 = n / 2 - 1 by omega, ih (n / 2) hm hlt i]
        simp only [Nat.add_lt_add_iff_right, Nat.add_right_cancel_iff]
theorem bt_nI {n : Nat} (hn : n < 2 ^ 32) (i : Nat) : bt (nI n) i = n.testBit i := by
  unfold bt
  rw [BitVec.getLsbD, pk_tn hn]
theorem ntz_v {a : Int32} {k : Nat} (hk : bt a k = true) (h : ∀ j, j < k → bt a j = false) : (a ^^^ (-1)) &&& (a - 1) = nI (2 ^ k - 1) := by
  have hk32 : k < 32 := by
    rcases Nat.lt_or_ge k 32 with q | q
    · exact q
    · rw [b_big q] at hk; cases hk
  obtain ⟨n, hn, rfl⟩ := wb_of32 a
  have h0 : 0 < n := by
    rcases Nat.eq_zero_or_pos n with q | q
    · subst q; rw [bt_nI (by decide), Nat.zero_testBit] at hk; cases hk
    · exact q
  have hlo : lowN 32 n = k := by
    obtain ⟨h1, h2, h3⟩ := lowN_tb 32 n h0 hn
    rw [bt_nI hn] at hk
    rcases Nat.lt_trichotomy (lowN 32 n) k with q | q | q
    · have := h _ q; rw [bt_nI hn, h1] at this; cases this
    · exact q
    · rw [h3 _ q] at hk; cases hk
  apply b_ext
  intro i hi
  have hp : 2 ^ k - 1 < 2 ^ 32 := by have := Nat.pow_lt_pow_right (a := 2) (by decide) hk32; omega
  rw [b_and, b_xor, b_m1 i hi, show nI n - 1 = nI (n - 1) from pk_sub h0, bt_nI hn, bt_nI (by omega), bt_nI hp, Nat.testBit_two_pow_sub_one, predN 32 n h0 hn, hlo]
  by_cases h1 : i < k
  · rw [if_pos h1]
    have := h i h1
    rw [bt_nI hn] at this
    simp [this, h1]
  · rw [if_neg h1]
    by_cases h2 : i = k
    · rw [if_pos h2]; simp [h1]
    · rw [if_neg h2]; cases n.testBit i <;> simp [h1]
theorem ntz_tab : ∀ k, k < 32 → f_J6_numberOfTrailingZeros_0f7a4 (nI (2 ^ k)) = some (nI k) := by decide +kernel
theorem ntz_6 {a : Int32} {k : Nat} (hk : bt a k = true) (h : ∀ j, j < k → bt a j = false) : f_J6_numberOfTrailingZeros_0f7a4 a = some (nI k) := by
  have hk32 : k < 32 := by
    rcases Nat.lt_or_ge k 32 with q | q
    · exact q
    · rw [b_big q] at hk; cases hk
  have e1 := ntz_v hk h
  have hp : 2 ^ k < 2 ^ 32 := Nat.pow_lt_pow_right (by decide) hk32
  have e2 := ntz_v (a := nI (2 ^ k)) (k := k) (by rw [bt_nI hp, Nat.testBit_two_pow]; simp) (fun j hj => by rw [bt_nI hp, Nat.testBit_two_pow]; simp; omega)
  rw [← ntz_tab k hk32]
  unfold f_J6_numberOfTrailingZeros_0f7a4
  rw [e1, e2]
theorem bt_low (x : Int64) {i : Nat} (hi : i < 32) : bt x.toInt32 i = tb x i := by
  unfold bt tb
  rw [Int64.toBitVec_toInt32, BitVec.getLsbD_signExtend]
  simp [hi, show i < 64 by omega]
theorem i32_0 {a : Int32} (h : ∀ i, i < 32 → bt a i = false) : a = 0 := b_ext (fun i hi => by rw [h i hi]; exact ((by decide +kernel : ∀ i, i < 32 → false = bt 0 i) i hi))
theorem ntz_13 {x : Int64} (h : x ≠ 0) : f_J13_numberOfTrailingZeros_95d88 x = some (nI (low x)) := by
  obtain ⟨h1, h2, h3⟩ := low_tb h
  unfold f_J13_numberOfTrailingZeros_95d88
  simp only [bnd]
  by_cases hk : low x < 32
  · rw [if_neg (fun z => by have := bt_low x hk; rw [z, h1] at this; exact absurd this ((by decide +kernel : ∀ i, i < 32 → ¬ bt 0 i = true) _ hk)), ntz_6 (k := low x) (by rw [bt_low x hk]; exact h1) (fun j hj => by rw [bt_low x (by omega)]; exact h3 j hj), ob_s]
  · rw [if_pos (i32_0 (fun i hi => by rw [bt_low x hi]; exact h3 i (by omega)))]
    rw [show (32 : Int32) = nI 32 from rfl, ntz_6 (k := low x - 32) (by rw [bt_low _ (by omega), tb_shr (by decide)]; rw [show 32 + (low x - 32) = low x by omega]; exact h1) (fun j hj => by rw [bt_low _ (by omega), tb_shr (by decide)]; exact h3 _ (by omega)), ob_s, nI_add]
    congr 2; omega
theorem lowest_10 (x : Int64) : f_X10_lowest x = some (if x = 0 then -1 else nI (low x)) := by
  unfold f_X10_lowest
  simp only [lg_cmp_eq]
  by_cases h : x = 0
  · rw [if_pos h, if_pos h]
  · rw [if_neg h, if_neg h, ntz_13 h, ob_s]
/-! the number of ones, by sums of parts of the word -/
def R (c : Nat) : Nat → Nat
  | 0 => 0
  | k + 1 => c + 256 * R c k
def Dm (f : Nat → Nat) : Nat → Nat → Nat
  | 0, _ => 0
  | k + 1, n => f (n % 256) + 256 * Dm f k (n / 256)
theorem and_split {a c d : Nat} (hc : c < 256) : a &&& (c + 256 * d) = (a % 256 &&& c) + 256 * (a / 256 &&& d) := by
  have h1 := Nat.and_mod_two_pow (a := a) (b := c + 256 * d) (n := 8)
  have h2 := Nat.and_div_two_pow (a := a) (b := c + 256 * d) (n := 8)
  rw [show (2 : Nat) ^ 8 = 256 from rfl] at h1 h2
  rw [show (c + 256 * d) % 256 = c by omega] at h1
  rw [show (c + 256 * d) / 256 = d by omega] at h2
  omega
def s1 (b : Nat) : Nat := b - (b / 2 &&& 85)
def s2 (b : Nat) : Nat := (b &&& 51) + (b / 4 &&& 51)
def s3 (b : Nat) : Nat := (b + b / 16) &&& 15
theorem sw1 : ∀ (k n : Nat), n < 256 ^ k → (n / 2 &&& R 85 k) ≤ n ∧ n - (n / 2 &&& R 85 k) = Dm s1 k n := by
  intro k
  induction k with
  | zero => intro n hn; simp at hn; subst hn; exact ⟨by decide, rfl⟩
  | succ k ih =>
    intro n hn
    have hd : n / 256 < 256 ^ k := by rw [Nat.pow_succ] at hn; omega
    obtain ⟨i1, i2⟩ := ih (n / 256) hd
    have e : (n / 2) % 256 &&& 85 = (n % 256) / 2 &&& 85 := by
      have h := (by decide +kernel : ∀ r, r < 512 → (r / 2) &&& 85 = ((r % 256) / 2) &&& 85) (n % 512) (by omega)
      rw [show (n / 2) % 256 = (n % 512) / 2 by omega, h]
      congr 2; omega
    have hle : (n % 256) / 2 &&& 85 ≤ n % 256 := Nat.le_trans Nat.and_le_left (by omega)
    have es : (n / 2 &&& R 85 (k + 1)) = ((n % 256) / 2 &&& 85) + 256 * ((n / 256) / 2 &&& R 85 k) := by
      show n / 2 &&& (85 + 256 * R 85 k) = _
      rw [and_split (by decide), e, show n / 2 / 256 = n / 256 / 2 by omega]
    rw [es]
    refine ⟨by omega, ?_⟩
    show _ = s1 (n % 256) + 256 * Dm s1 k (n / 256)
    rw [← i2]
    unfold s1
    omega
theorem sw2 : ∀ (k n : Nat), n < 256 ^ k → (n &&& R 51 k) + (n / 4 &&& R 51 k) = Dm s2 k n := by
  intro k
  induction k with
  | zero => intro n hn; simp at hn; subst hn; rfl
  | succ k ih =>
    intro n hn
    have hd : n / 256 < 256 ^ k := by rw [Nat.pow_succ] at hn; omega
    have i2 := ih (n / 256) hd
    have e : (n / 4) % 256 &&& 51 = (n % 256) / 4 &&& 51 := by
      have h := (by decide +kernel : ∀ r, r < 1024 → (r / 4) &&& 51 = ((r % 256) / 4) &&& 51) (n % 1024) (by omega)
      rw [show (n / 4) % 256 = (n % 1024) / 4 by omega, h]
      congr 2; omega
    show (n &&& (51 + 256 * R 51 k)) + (n / 4 &&& (51 + 256 * R 51 k)) = s2 (n % 256) + 256 * Dm s2 k (n / 256)
    rw [and_split (by decide), and_split (by decide), e, show n / 4 / 256 = n / 256 / 4 by omega, ← i2]
    unfold s2
    omega
def nib (b : Nat) : Prop := b ≤ 68 ∧ b % 16 ≤ 4
def nibs : Nat → Nat → Prop
  | 0, n => n = 0
  | k + 1, n => nib (n % 256) ∧ nibs k (n / 256)
theorem sw3 : ∀ (k n : Nat), nibs k n → (n + n / 16) &&& R 15 k = Dm s3 k n := by
  intro k
  induction k with
  | zero => intro n hn; subst hn; rfl
  | succ k ih =>
    intro n hn
    obtain ⟨⟨h1, h2⟩, h3⟩ := hn
    have i2 := ih (n / 256) h3
    have hw : (n / 256) % 16 ≤ 4 := by
      cases k with
      | zero => have : n / 256 = 0 := h3; omega
      | succ k => have := h3.1.2; omega
    have e1 : (n + n / 16) % 256 &&& 15 = (n % 256 + (n % 256) / 16) &&& 15 := by
      rw [show (15 : Nat) = 2 ^ 4 - 1 from rfl, Nat.and_two_pow_sub_one_eq_mod, Nat.and_two_pow_sub_one_eq_mod]
      omega
    have e2 : (n + n / 16) / 256 = n / 256 + n / 256 / 16 := by omega
    show (n + n / 16) &&& (15 + 256 * R 15 k) = s3 (n % 256) + 256 * Dm s3 k (n / 256)
    rw [and_split (by decide), e1, e2, i2]
    rfl
theorem Dm_lt {f : Nat → Nat} (hf : ∀ b, b < 256 → f b < 256) : ∀ (k n : Nat), Dm f k n < 256 ^ k := by
  intro k
  induction k with
  | zero => intro n; show 0 < 1; decide
  | succ k ih =>
    intro n
    have h1 := ih (n / 256)
    have h2 := hf (n % 256) (by omega)
    show f (n % 256) + 256 * Dm f k (n / 256) < _
    rw [Nat.pow_succ]
    omega
theorem Dm_comp {f g : Nat → Nat} (hg : ∀ b, b < 256 → g b < 256) : ∀ (k n : Nat), Dm f k (Dm g k n) = Dm (fun b => f (g b)) k n := by
  intro k
  induction k with
  | zero => intro n; rfl
  | succ k ih =>
    intro n
    have h2 := hg (n % 256) (by omega)
    show f ((g (n % 256) + 256 * Dm g k (n / 256)) % 256) + 256 * Dm f k ((g (n % 256) + 256 * Dm g k (n / 256)) / 256) = f (g (n % 256)) + 256 * Dm _ k (n / 256)
    rw [show (g (n % 256) + 256 * Dm g k (n / 256)) % 256 = g (n % 256) by omega, show (g (n % 256) + 256 * Dm g k (n / 256)) / 256 = Dm g k (n / 256) by omega, ih]
theorem Dm_nibs {g : Nat → Nat} (hg : ∀ b, b < 256 → g b ≤ 68 ∧ g b % 16 ≤ 4) : ∀ (k n : Nat), nibs k (Dm g k n) := by
  intro k
  induction k with
  | zero => intro n; rfl
  | succ k ih =>
    intro n
    obtain ⟨h2, h3⟩ := hg (n % 256) (by omega)
    have e : Dm g (k + 1) n = g (n % 256) + 256 * Dm g k (n / 256) := rfl
    show nib (Dm g (k + 1) n % 256) ∧ nibs k (Dm g (k + 1) n / 256)
    rw [e, show (g (n % 256) + 256 * Dm g k (n / 256)) % 256 = g (n % 256) by omega, show (g (n % 256) + 256 * Dm g k (n / 256)) / 256 = Dm g k (n / 256) by omega]
    exact ⟨⟨h2, h3⟩, ih _⟩
def pop (b : Nat) : Nat := cnt (Nat.testBit b) 8
theorem s123 : ∀ b, b < 256 → s1 b < 256 ∧ s2 (s1 b) < 256 ∧ (s2 (s1 b) ≤ 68 ∧ s2 (s1 b) % 16 ≤ 4) ∧ s3 (s2 (s1 b)) = pop b ∧ pop b ≤ 8 := by decide +kernel
theorem Dm_cong {f g : Nat → Nat} (h : ∀ b, b < 256 → f b = g b) : ∀ (k n : Nat), Dm f k n = Dm g k n := by
  intro k
  induction k with
  | zero => intro n; rfl
  | succ k ih =>
    intro n
    show f (n % 256) + 256 * Dm f k (n / 256) = g (n % 256) + 256 * Dm g k (n / 256)
    rw [h _ (by omega), ih]
theorem cnt_add (p : Nat → Bool) (a : Nat) : ∀ b, cnt p (a + b) = cnt p a + cnt (fun i => p (a + i)) b
  | 0 => rfl
  | b + 1 => by
    show cnt p (a + b) + _ = cnt p a + (cnt (fun i => p (a + i)) b + _)
    rw [cnt_add p a b, Nat.add_assoc]; rfl
theorem cnt_byte (n k : Nat) : cnt n.testBit (8 + k) = pop (n % 256) + cnt (n / 256).testBit k := by
  rw [cnt_add]
  congr 1
  · exact cnt_cong (fun i hi => by rw [show (256 : Nat) = 2 ^ 8 from rfl, Nat.testBit_mod_two_pow]; simp [hi])
  · exact cnt_cong (fun i _ => by rw [show (256 : Nat) = 2 ^ 8 from rfl, Nat.testBit_div_two_pow]; congr 1; omega)
theorem bitCount_13 (x : Int64) : f_J13_bitCount_95d88 x = some (nI (pcn x)) := by
  obtain ⟨n, hn, rfl⟩ := wb_of x
  have hn8 : n < 256 ^ 8 := hn
  obtain ⟨a1, a2⟩ := sw1 8 n hn8
  have hs1 : ∀ b, b < 256 → s1 b < 256 := fun b hb => (s123 b hb).1
  have hs2 : ∀ b, b < 256 → s2 (s1 b) < 256 := fun b hb => (s123 b hb).2.1
  have b1 := Dm_lt hs1 8 n
  have b2 := sw2 8 (Dm s1 8 n) b1
  rw [Dm_comp hs1] at b2
  have c1 := Dm_lt hs2 8 n
  have c2 := sw3 8 _ (Dm_nibs (fun b hb => (s123 b hb).2.2.1) 8 n)
  rw [Dm_comp hs2, Dm_cong (g := pop) (fun b hb => (s123 b hb).2.2.2.1)] at c2
  have hR5 : (6148914691236517205 : Int64) = lN (R 85 8) := by decide +kernel
  have hR3 : (3689348814741910323 : Int64) = lN (R 51 8) := by decide +kernel
  have hR1 : (1085102592571150095 : Int64) = lN (R 15 8) := by decide +kernel
  have r5 : R 85 8 < 2 ^ 64 := by decide
  have r3 : R 51 8 < 2 ^ 64 := by decide
  have r1 : R 15 8 < 2 ^ 64 := by decide
  unfold f_J13_bitCount_95d88
  simp only [bnd]
  rw [hR5, hR3, hR1]
  have e1 : lN n - ((((lN n : Int64).toUInt64 >>> ((1 : Int32).toInt64.toUInt64 &&& Int64.toUInt64 63)).toInt64) &&& lN (R 85 8)) = lN (Dm s1 8 n) := by
    rw [show (1 : Int32) = nI 1 from rfl, wb_shr hn (by decide), wb_and (by omega) r5, show (2 : Nat) ^ 1 = 2 from rfl, lN_sub a1, a2]
  rw [e1]
  have e2 : (lN (Dm s1 8 n) &&& lN (R 51 8)) + ((((lN (Dm s1 8 n) : Int64).toUInt64 >>> ((2 : Int32).toInt64.toUInt64 &&& Int64.toUInt64 63)).toInt64) &&& lN (R 51 8)) = lN (Dm (fun b => s2 (s1 b)) 8 n) := by
    rw [show (2 : Int32) = nI 2 from rfl, wb_shr b1 (by decide), wb_and b1 r3, wb_and (Nat.lt_of_le_of_lt (Nat.div_le_self _ _) b1) r3, show (2 : Nat) ^ 2 = 4 from rfl, lN_add, b2]
  rw [e2]
  have hc16 : Dm (fun b => s2 (s1 b)) 8 n + Dm (fun b => s2 (s1 b)) 8 n / 16 < 2 ^ 64 := by
    have h7 : Dm (fun b => s2 (s1 b)) 8 n < 2 ^ 63 := by
      show s2 (s1 (n % 256)) + 256 * Dm _ 7 (n / 256) < _
      have := Dm_lt (f := fun b => s2 (s1 b)) hs2 6 (n / 256 / 256 / 256 / 256 / 256 / 256 / 256)
      have h1 := (s123 (n % 256) (by omega)).2.2.1.1
      have h2 := (s123 (n / 256 % 256) (by omega)).2.2.1.1
      have h3 := (s123 (n / 256 / 256 % 256) (by omega)).2.2.1.1
      have h4 := (s123 (n / 256 / 256 / 256 % 256) (by omega)).2.2.1.1
      have h5 := (s123 (n / 256 / 256 / 256 / 256 % 256) (by omega)).2.2.1.1
      have h6 := (s123 (n / 256 / 256 / 256 / 256 / 256 % 256) (by omega)).2.2.1.1
      have h7 := (s123 (n / 256 / 256 / 256 / 256 / 256 / 256 % 256) (by omega)).2.2.1.1
      have h8 := (s123 (n / 256 / 256 / 256 / 256 / 256 / 256 / 256 % 256) (by omega)).2.2.1.1
      simp only [Dm]
      omega
    omega
  have e3 : (lN (Dm (fun b => s2 (s1 b)) 8 n) + (((lN (Dm (fun b => s2 (s1 b)) 8 n) : Int64).toUInt64 >>> ((4 : Int32).toInt64.toUInt64 &&& Int64.toUInt64 63)).toInt64)) &&& lN (R 15 8) = lN (Dm pop 8 n) := by
    rw [show (4 : Int32) = nI 4 from rfl, wb_shr c1 (by decide), lN_add, show (2 : Nat) ^ 4 = 16 from rfl, wb_and hc16 r1, c2]
  rw [e3]
  have hp : pcn (lN n) = pop (n % 256) + (pop (n / 256 % 256) + (pop (n / 256 / 256 % 256) + (pop (n / 256 / 256 / 256 % 256) + (pop (n / 256 / 256 / 256 / 256 % 256) + (pop (n / 256 / 256 / 256 / 256 / 256 % 256) + (pop (n / 256 / 256 / 256 / 256 / 256 / 256 % 256) + pop (n / 256 / 256 / 256 / 256 / 256 / 256 / 256 % 256))))))) := by
    unfold pcn
    rw [cnt_cong (q := n.testBit) (fun i _ => tb_lN hn i)]
    rw [cnt_byte n 56, cnt_byte (n / 256) 48, cnt_byte (n / 256 / 256) 40, cnt_byte (n / 256 / 256 / 256) 32, cnt_byte (n / 256 / 256 / 256 / 256) 24, cnt_byte (n / 256 / 256 / 256 / 256 / 256) 16, cnt_byte (n / 256 / 256 / 256 / 256 / 256 / 256) 8, cnt_byte (n / 256 / 256 / 256 / 256 / 256 / 256 / 256) 0]
    rfl
  have hD : Dm pop 8 n = pop (n % 256) + 256 * (pop (n / 256 % 256) + 256 * (pop (n / 256 / 256 % 256) + 256 * (pop (n / 256 / 256 / 256 % 256) + 256 * (pop (n / 256 / 256 / 256 / 256 % 256) + 256 * (pop (n / 256 / 256 / 256 / 256 / 256 % 256) + 256 * (pop (n / 256 / 256 / 256 / 256 / 256 / 256 % 256) + 256 * (pop (n / 256 / 256 / 256 / 256 / 256 / 256 / 256 % 256) + 256 * 0))))))) := rfl
  have pb : ∀ b, b < 256 → pop b ≤ 8 := fun b hb => (s123 b hb).2.2.2.2
  have p0 := pb (n % 256) (by omega)
  have p1 := pb (n / 256 % 256) (by omega)
  have p2 := pb (n / 256 / 256 % 256) (by omega)
  have p3 := pb (n / 256 / 256 / 256 % 256) (by omega)
  have p4 := pb (n / 256 / 256 / 256 / 256 % 256) (by omega)
  have p5 := pb (n / 256 / 256 / 256 / 256 / 256 % 256) (by omega)
  have p6 := pb (n / 256 / 256 / 256 / 256 / 256 / 256 % 256) (by omega)
  have p7 := pb (n / 256 / 256 / 256 / 256 / 256 / 256 / 256 % 256) (by omega)
  generalize pop (n % 256) = q0 at *
  generalize pop (n / 256 % 256) = q1 at *
  generalize pop (n / 256 / 256 % 256) = q2 at *
  generalize pop (n / 256 / 256 / 256 % 256) = q3 at *
  generalize pop (n / 256 / 256 / 256 / 256 % 256) = q4 at *
  generalize pop (n / 256 / 256 / 256 / 256 / 256 % 256) = q5 at *
  generalize pop (n / 256 / 256 / 256 / 256 / 256 / 256 % 256) = q6 at *
  generalize pop (n / 256 / 256 / 256 / 256 / 256 / 256 / 256 % 256) = q7 at *
  generalize Dm pop 8 n = c at *
  rw [hp]
  clear hp e1 e2 e3 hc16 c2 c1 b2 b1 a1 a2 hs1 hs2 hn8 hR5 hR3 hR1 r5 r3 r1 pb
  have g1 : lN c + (((lN c : Int64).toUInt64 >>> ((8 : Int32).toInt64.toUInt64 &&& Int64.toUInt64 63)).toInt64) = lN (c + c / 256) := by
    rw [show (8 : Int32) = nI 8 from rfl, wb_shr (by omega) (by decide), lN_add]
  rw [g1]
  have g2 : lN (c + c / 256) + (((lN (c + c / 256) : Int64).toUInt64 >>> ((16 : Int32).toInt64.toUInt64 &&& Int64.toUInt64 63)).toInt64) = lN (c + c / 256 + (c + c / 256) / 65536) := by
    rw [show (16 : Int32) = nI 16 from rfl, wb_shr (by omega) (by decide), lN_add]
  rw [g2]
  have g3 : lN (c + c / 256 + (c + c / 256) / 65536) + (((lN (c + c / 256 + (c + c / 256) / 65536) : Int64).toUInt64 >>> ((32 : Int32).toInt64.toUInt64 &&& Int64.toUInt64 63)).toInt64) = lN (c + c / 256 + (c + c / 256) / 65536 + (c + c / 256 + (c + c / 256) / 65536) / 4294967296) := by
    rw [show (32 : Int32) = nI 32 from rfl, wb_shr (by omega) (by decide), lN_add]
  rw [g3, lN_i, show (127 : Int32) = nI (2 ^ 7 - 1) from rfl, fa_mask]
  obtain ⟨d, hd⟩ : ∃ d, d = c + c / 256 := ⟨_, rfl⟩
  have hd' : d = (q0 + q1) + 256 * ((q1 + q2) + 256 * ((q2 + q3) + 256 * ((q3 + q4) + 256 * ((q4 + q5) + 256 * ((q5 + q6) + 256 * ((q6 + q7) + 256 * q7)))))) := by omega
  rw [← hd]
  clear hd hD
  obtain ⟨e, he⟩ : ∃ e, e = d + d / 65536 := ⟨_, rfl⟩
  have he' : e = (q0 + q1 + q2 + q3) + 256 * ((q1 + q2 + q3 + q4) + 256 * ((q2 + q3 + q4 + q5) + 256 * ((q3 + q4 + q5 + q6) + 256 * ((q4 + q5 + q6 + q7) + 256 * ((q5 + q6 + q7) + 256 * ((q6 + q7) + 256 * q7)))))) := by omega
  rw [← he]
  clear he hd'
  have h4 : e / 4294967296 = (q4 + q5 + q6 + q7) + 256 * ((q5 + q6 + q7) + 256 * ((q6 + q7) + 256 * q7)) := by omega
  rw [h4]
  congr 2
  omega
