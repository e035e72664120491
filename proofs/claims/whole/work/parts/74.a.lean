/-! the text: tokens -/
def runP (P : Nat → Bool) (a n : Nat) : Nat := a + fa_first (fun i => !P (a + i)) (n - a)
theorem runP_ge (P : Nat → Bool) (a n : Nat) : a ≤ runP P a n := by unfold runP; omega
theorem runP_le {P : Nat → Bool} {a n : Nat} (h : a ≤ n) : runP P a n ≤ n := by
  unfold runP
  have := fa_first_le (fun i => !P (a + i)) (n - a)
  omega
theorem runP_in {P : Nat → Bool} {a n i : Nat} (h1 : a ≤ i) (h2 : i < runP P a n) : P i = true := by
  unfold runP at h2
  have := fa_first_no (fun i => !P (a + i)) (n - a) (i - a) (by omega)
  rw [show a + (i - a) = i by omega] at this
  simpa using this
theorem runP_out {P : Nat → Bool} {a n : Nat} (h : runP P a n < n) : P (runP P a n) = false := by
  have h2 : fa_first (fun i => !P (a + i)) (n - a) < n - a := by unfold runP at h; omega
  have := fa_first_yes (fun i => !P (a + i)) (n - a) h2
  have e : runP P a n = a + fa_first (fun i => !P (a + i)) (n - a) := rfl
  rw [e]
  simpa using this
theorem runP_eq {P : Nat → Bool} {a n b : Nat} (h1 : a ≤ b) (h2 : b ≤ n) (h3 : ∀ i, a ≤ i → i < b → P i = true) (h4 : b < n → P b = false) : runP P a n = b := by
  rcases Nat.lt_trichotomy (runP P a n) b with q | q | q
  · have := h3 _ (runP_ge P a n) q
    rw [runP_out (P := P) (a := a) (n := n) (by omega)] at this
    cases this
  · exact q
  · have h5 := runP_le (P := P) (show a ≤ n by omega)
    have := runP_in (P := P) h1 q
    rw [h4 (by omega)] at this
    cases this
theorem runP_s {P : Nat → Bool} {a n : Nat} (h : a < n) (hP : P a = true) : runP P (a + 1) n = runP P a n := by
  have h1 := runP_ge P (a + 1) n
  have h2 := runP_le (P := P) (show a + 1 ≤ n by omega)
  refine (runP_eq (by omega) h2 (fun i hi hi2 => ?_) (fun z => runP_out z)).symm
  rcases Nat.eq_or_lt_of_le hi with q | q
  · rw [← q]; exact hP
  · exact runP_in q hi2
def isDg (c : Nat) : Bool := decide (48 ≤ c) && decide (c ≤ 57)
def isLt (c : Nat) : Bool := decide (97 ≤ c) && decide (c ≤ 122)
def isBk (c : Nat) : Bool := decide (c = 10) || decide (c = 32)
/-- where the token from a place on begins and ends -/
def bgT (T : Nat → Nat) (n a : Nat) : Nat := runP (fun i => isBk (T i)) a n
def enT (T : Nat → Nat) (n a : Nat) : Nat := if n ≤ bgT T n a then bgT T n a else if isDg (T (bgT T n a)) = true then runP (fun i => isDg (T i)) (bgT T n a) n else if isLt (T (bgT T n a)) = true then runP (fun i => isLt (T i)) (bgT T n a) n else bgT T n a + 1
def vlT (T : Nat → Nat) (b : Nat) : Nat → Nat
  | 0 => 0
  | k + 1 => 10 * vlT T b k + (T (b + k) - 48)
/-- a word of the tables -/
def wdT (T : Nat → Nat) (b e s : Nat) : Bool := decide (sLen s = e - b) && allF (fun i => decide (nI (T (b + i)) = sCh s i)) 0 (sLen s)
def wrT (T : Nat → Nat) (b e : Nat) : Nat := if wdT T b e 1 = true then 5 else if wdT T b e 2 = true then 6 else if wdT T b e 3 = true then 7 else if wdT T b e 4 = true then 8 else if wdT T b e 5 = true then 9 else if wdT T b e 6 = true then 10 else 4
/-- what kind it is: 0 the end, 1 the sign, 2 a number, 3 none, 4 another word, 5 and on the words -/
def kdT (T : Nat → Nat) (n a : Nat) : Nat := if n ≤ bgT T n a then 0 else if isDg (T (bgT T n a)) = true then (if enT T n a - bgT T n a ≤ 3 then 2 else 3) else if isLt (T (bgT T n a)) = true then wrT T (bgT T n a) (enT T n a) else if T (bgT T n a) = 59 then 1 else 3
def nvT (T : Nat → Nat) (n a : Nat) : Nat := vlT T (bgT T n a) (enT T n a - bgT T n a)
theorem bgT_ge (T : Nat → Nat) (n a : Nat) : a ≤ bgT T n a := runP_ge _ _ _
theorem bgT_le {T : Nat → Nat} {n a : Nat} (h : a ≤ n) : bgT T n a ≤ n := runP_le h
theorem enT_ge (T : Nat → Nat) (n a : Nat) : bgT T n a ≤ enT T n a := by
  unfold enT
  split
  · exact Nat.le_refl _
  · split
    · exact runP_ge _ _ _
    · split
      · exact runP_ge _ _ _
      · omega
theorem enT_gt {T : Nat → Nat} {n a : Nat} (h : bgT T n a < n) : bgT T n a < enT T n a := by
  have key : ∀ P : Nat → Bool, P (bgT T n a) = true → bgT T n a < runP P (bgT T n a) n := fun P hP => by
    have := runP_ge P (bgT T n a + 1) n
    rw [runP_s h hP] at this
    omega
  unfold enT
  rw [if_neg (by omega)]
  split
  · rename_i z; exact key _ z
  · split
    · rename_i z; exact key _ z
    · omega
theorem enT_le {T : Nat → Nat} {n a : Nat} (h : a ≤ n) : enT T n a ≤ n := by
  have h1 := bgT_le (T := T) h
  unfold enT
  split
  · exact h1
  · split
    · exact runP_le h1
    · split
      · exact runP_le h1
      · omega
theorem wk_ge (T : Nat → Nat) (b e : Nat) : 4 ≤ wrT T b e := by
  unfold wrT
  split
  · decide
  · split
    · decide
    · split
      · decide
      · split
        · decide
        · split
          · decide
          · split <;> decide
theorem kd0 {T : Nat → Nat} {n a : Nat} : kdT T n a = 0 ↔ n ≤ bgT T n a := by
  unfold kdT
  have := wk_ge T (bgT T n a) (enT T n a)
  split
  · simp [*]
  · rename_i h
    refine ⟨fun z => ?_, fun z => absurd z h⟩
    split at z
    · split at z <;> omega
    · split at z
      · omega
      · split at z <;> omega
theorem vl_lt {T : Nat → Nat} {b : Nat} : ∀ k, (∀ i, i < k → isDg (T (b + i)) = true) → vlT T b k < 10 ^ k := by
  intro k
  induction k with
  | zero => intro _; show 0 < 1; omega
  | succ k ih =>
    intro h
    have h1 := ih (fun i hi => h i (by omega))
    have h2 := h k (by omega)
    unfold isDg at h2
    rw [Bool.and_eq_true, decide_eq_true_iff, decide_eq_true_iff] at h2
    show 10 * vlT T b k + (T (b + k) - 48) < 10 ^ (k + 1)
    rw [Nat.pow_succ]
    omega
/-- a number's value -/
theorem nv_lt {T : Nat → Nat} {n a : Nat} (h : kdT T n a = 2) : nvT T n a < 1000 ∧ bgT T n a < n := by
  have hb : bgT T n a < n := by
    rcases Nat.lt_or_ge (bgT T n a) n with q | q
    · exact q
    · rw [kd0.mpr q] at h; omega
  refine ⟨?_, hb⟩
  have hw := wk_ge T (bgT T n a) (enT T n a)
  have hd : isDg (T (bgT T n a)) = true ∧ enT T n a - bgT T n a ≤ 3 := by
    unfold kdT at h
    rw [if_neg (by omega)] at h
    by_cases c : isDg (T (bgT T n a)) = true
    · rw [if_pos c] at h
      by_cases d : enT T n a - bgT T n a ≤ 3
      · exact ⟨c, d⟩
      · rw [if_neg d] at h; omega
    · rw [if_neg c] at h
      split at h
      · omega
      · split at h <;> omega
  have he : enT T n a = runP (fun i => isDg (T i)) (bgT T n a) n := by
    unfold enT
    rw [if_neg (by omega), if_pos hd.1]
  have h1 := vl_lt (T := T) (b := bgT T n a) (enT T n a - bgT T n a) (fun i hi => by
    have := runP_in (P := fun i => isDg (T i)) (a := bgT T n a) (n := n) (i := bgT T n a + i) (by omega) (by rw [← he]; omega)
    exact this)
  have h2 : 10 ^ (enT T n a - bgT T n a) ≤ 10 ^ 3 := Nat.pow_le_pow_right (by decide) hd.2
  unfold nvT
  omega
theorem oI_same (st : OS) (k : Nat) (v w : Int32) : oI (oI st k v) k w = oI st k w := by
  unfold oI
  simp only [bx_uu]
theorem oI_id (st : OS) (k : Nat) : oI st k (st.1 k) = st := by
  unfold oI
  refine Prod.ext (funext fun z => ?_) rfl
  by_cases h : z = k
  · subst h; simp [va_up]
  · simp [va_up, h]
theorem dg_cond {c : Nat} (hc : c < 256) {α : Type} (x y : α) : (if nI c < (48 : Int32) then x else (if (57 : Int32) < nI c then x else y)) = if isDg c = true then y else x := by
  unfold isDg
  by_cases h1 : c < 48
  · rw [if_pos (show nI c < (48 : Int32) from nI_lt (b := 48) h1 (by decide)), decide_eq_false (by omega), if_neg (by simp)]
  · rw [if_neg (show ¬ nI c < (48 : Int32) from nI_nlt (b := 48) (by omega) (by omega)), decide_eq_true (by omega), Bool.true_and]
    by_cases h2 : c ≤ 57
    · rw [if_neg (show ¬ (57 : Int32) < nI c from nI_nlt (a := 57) h2 (by decide)), if_pos (decide_eq_true h2)]
    · rw [if_pos (show (57 : Int32) < nI c from nI_lt (a := 57) (by omega) (by omega)), decide_eq_false h2, if_neg (by decide)]
theorem lt_cond {c : Nat} (hc : c < 256) {α : Type} (x y : α) : (if nI c < (97 : Int32) then x else (if (122 : Int32) < nI c then x else y)) = if isLt c = true then y else x := by
  unfold isLt
  by_cases h1 : c < 97
  · rw [if_pos (show nI c < (97 : Int32) from nI_lt (b := 97) h1 (by decide)), decide_eq_false (by omega), if_neg (by simp)]
  · rw [if_neg (show ¬ nI c < (97 : Int32) from nI_nlt (b := 97) (by omega) (by omega)), decide_eq_true (by omega), Bool.true_and]
    by_cases h2 : c ≤ 122
    · rw [if_neg (show ¬ (122 : Int32) < nI c from nI_nlt (a := 122) h2 (by decide)), if_pos (decide_eq_true h2)]
    · rw [if_pos (show (122 : Int32) < nI c from nI_lt (a := 122) (by omega) (by omega)), decide_eq_false h2, if_neg (by decide)]
theorem dg_12 {c : Nat} (hc : c < 256) : f_X12_isDigit (nI c) = some (b2i (isDg c)) := by
  unfold f_X12_isDigit
  rw [dg_cond hc]
  cases isDg c <;> rfl
theorem lt_12 {c : Nat} (hc : c < 256) : f_X12_isLetter (nI c) = some (b2i (isLt c)) := by
  unfold f_X12_isLetter
  rw [lt_cond hc]
  cases isLt c <;> rfl
theorem dg_5 {c : Nat} (hc : c < 256) : f_X5_isDigit (nI c) = some (b2i (isDg c)) := by
  unfold f_X5_isDigit
  rw [dg_cond hc]
  cases isDg c <;> rfl
theorem lt_5 {c : Nat} (hc : c < 256) : f_X5_isLetter (nI c) = some (b2i (isLt c)) := by
  unfold f_X5_isLetter
  rw [lt_cond hc]
  cases isLt c <;> rfl
theorem bk_5 {c : Nat} (hc : c < 256) : f_X5_isBlank (nI c) = some (b2i (isBk c)) := by
  unfold f_X5_isBlank isBk
  by_cases h1 : c = 10
  · rw [if_pos (show nI c = (10 : Int32) from congrArg nI h1), decide_eq_true h1]; rfl
  · rw [if_neg (show ¬ nI c = (10 : Int32) from nI_neq (b := 10) (by omega) (by decide) h1), decide_eq_false h1, Bool.false_or]
    by_cases h2 : c = 32
    · rw [if_pos (show nI c = (32 : Int32) from congrArg nI h2), decide_eq_true h2]; rfl
    · rw [if_neg (show ¬ nI c = (32 : Int32) from nI_neq (b := 32) (by omega) (by decide) h2), decide_eq_false h2]; rfl
