/-! the text: what it says; the class reads it -/
abbrev RD : Type := (Nat × Nat × List Int64) ⊕ (Nat × Nat)
def flT (T : Nat → Nat) (n a k : Nat) : Nat × Nat := (if kdT T n a = 3 then 1 else k, bgT T n a)
def stopP (T : Nat → Nat) (n a p : Nat) (l : List Int64) : RD := if kdT T n a = 1 then .inl (enT T n a, p, l) else .inr (flT T n a 2)
def numP (T : Nat → Nat) (n a lo hi : Nat) : Nat ⊕ (Nat × Nat) := if kdT T n a = 2 then (if nvT T n a < lo ∨ hi < nvT T n a then .inr (flT T n a 3) else .inl (nvT T n a)) else .inr (flT T n a 2)
noncomputable def firstP (T : Nat → Nat) (n a : Nat) : RD :=
  if kdT T n a = 5 then (match numP T n (enT T n a) 1 64 with
    | .inl v => stopP T n (enT T n (enT T n a)) v []
    | .inr e => .inr e)
  else if kdT T n a = 6 then (match numP T n (enT T n a) 2 8 with
    | .inr e => .inr e
    | .inl u => match numP T n (enT T n (enT T n a)) 2 8 with
      | .inr e => .inr e
      | .inl v => stopP T n (enT T n (enT T n (enT T n a))) (u * v) (gdL u v))
  else if kdT T n a = 7 then stopP T n (enT T n a) 15 (dgL 0)
  else if kdT T n a = 8 then stopP T n (enT T n a) 27 (sxL ++ dgL 12)
  else if kdT T n a = 9 then stopP T n (enT T n a) 40 thL
  else .inr (flT T n a 2)
def pntP (T : Nat → Nat) (n p : Nat) (l : List Int64) : Nat → Nat → Int64 → RD
  | 0, _, _ => .inr (0, 0)
  | f + 1, b, s => if kdT T n b = 2 then (if nvT T n b < p ∧ tb s (nvT T n b) = false then pntP T n p l f (enT T n b) (s ||| bit1 (nvT T n b)) else .inr (flT T n b 3)) else if pcn s < 2 then .inr (flT T n b 2) else stopP T n b p (l ++ [s])
def lineP (T : Nat → Nat) (n a p : Nat) (l : List Int64) : RD := if kdT T n a = 10 then (if 64 ≤ l.length then .inr (flT T n a 4) else pntP T n p l 66 (enT T n a) 0) else .inr (flT T n a 2)
def linesP (T : Nat → Nat) (n : Nat) : Nat → RD → RD
  | 0, r => r
  | f + 1, r => match r with
    | .inr e => .inr e
    | .inl (a, p, l) => if kdT T n a = 0 then .inl (a, p, l) else linesP T n f (lineP T n a p l)
theorem linesP_r (T : Nat → Nat) (n f : Nat) (e : Nat × Nat) : linesP T n (f + 1) (.inr e) = .inr e := rfl
theorem linesP_l (T : Nat → Nat) (n f a p : Nat) (l : List Int64) : linesP T n (f + 1) (.inl (a, p, l)) = if kdT T n a = 0 then .inl (a, p, l) else linesP T n f (lineP T n a p l) := rfl
theorem kd_lt (T : Nat → Nat) (n a : Nat) : kdT T n a ≤ 10 := by
  have hw : wrT T (bgT T n a) (enT T n a) ≤ 10 := by
    unfold wrT
    split
    · decide
    · split
      · decide
      · split
        · decide
        · split
          · decide
          · split
            · decide
            · split <;> decide
  unfold kdT
  split
  · omega
  · split
    · split <;> omega
    · split
      · exact hw
      · split <;> omega
theorem flT_k {T : Nat → Nat} {n a k : Nat} (hk : 1 ≤ k) (hk2 : k < 5) : 1 ≤ (flT T n a k).1 ∧ (flT T n a k).1 < 5 := by
  unfold flT
  dsimp only
  split <;> omega
/-- while the class reads: what stays -/
def KK5 (st x : OS) : Prop := x.2 = st.2 ∧ ∀ k, k ≠ 4 → k ≠ 5 → k ≠ 6 → k ≠ 7 → k ≠ 8 → k ≠ 9 → x.1 k = st.1 k
theorem KK5.rf {st : OS} : KK5 st st := ⟨rfl, fun _ _ _ _ _ _ _ => rfl⟩
theorem KK5.tr {st x y : OS} (h : KK5 st x) (g : KK5 x y) : KK5 st y := ⟨g.1.trans h.1, fun k a b c d e f => (g.2 k a b c d e f).trans (h.2 k a b c d e f)⟩
theorem KT5.kk {st x : OS} (h : KT5 st x) : KK5 st x := ⟨h.1, fun k a b c d _ _ => h.2 k a b c d⟩
theorem KK5.o {st x : OS} (h : KK5 st x) {k : Nat} (hk : k = 8 ∨ k = 9) (v : Int32) : KK5 st (oI x k v) := ⟨by rw [oI_2]; exact h.1, fun j a b c d e f => by rw [oI_ne _ (by omega)]; exact h.2 j a b c d e f⟩
theorem RB5.kk {st x : OS} {T : Nat → Nat} {n : Nat} (h : RB5 st T n) (k : KK5 st x) : RB5 x T n := ⟨(k.2 3 (by decide) (by decide) (by decide) (by decide) (by decide) (by decide)).trans h.1, h.2.1, fun i hi => by rw [k.1]; exact h.2.2 i hi⟩
/-- where the class stands -/
def MC (T : Nat → Nat) (n : Nat) (t o : OS) : RD → Prop
  | .inl (a, p, l) => TK5 t T n a ∧ a ≤ n ∧ t.1 8 = 0 ∧ t.1 9 = -1 ∧ PL o p l
  | .inr (k, q) => t.1 8 = nI k ∧ t.1 9 = nI q ∧ 1 ≤ k ∧ k < 5 ∧ ∃ p l, PL o p l
section RC
variable {st t o mk : OS} {T : Nat → Nat} {n : Nat}
theorem refuse_5 {a k : Nat} (hk : 1 ≤ k) (hk2 : k < 5) (h : TK5 t T n a) : ∃ x, f_X5_refuse t mk (nI k) = some x ∧ KK5 t x ∧ x.1 8 = nI (flT T n a k).1 ∧ x.1 9 = nI (flT T n a k).2 := by
  have hl := kd_lt T n a
  unfold f_X5_refuse flT
  dsimp only [bnd]
  rw [h.2.2.1]
  by_cases c : kdT T n a = 3
  · rw [if_pos (show nI (kdT T n a) = (3 : Int32) from congrArg nI c), if_pos c]
    refine ⟨_, rfl, (KK5.rf.o (by omega) _).o (by omega) _, by rw [oI_ne _ (by decide), oI_self]; rfl, ?_⟩
    rw [oI_self, oI_ne _ (by decide)]
    exact h.1
  · rw [if_neg (show ¬ nI (kdT T n a) = (3 : Int32) from nI_neq (b := 3) (by omega) (by decide) c), if_neg c]
    refine ⟨_, rfl, (KK5.rf.o (by omega) _).o (by omega) _, by rw [oI_ne _ (by decide), oI_self], ?_⟩
    rw [oI_self, oI_ne _ (by decide)]
    exact h.1
theorem nI_ne_0 {k : Nat} (h : 1 ≤ k) (h2 : k < 5) : ¬ nI k = (0 : Int32) := nI_neq (b := 0) (by omega) (by decide) (by omega)
theorem readNumber_5 (hR : RB5 t T n) {a lo hi : Nat} (h7 : t.1 7 = nI a) (ha : a ≤ n) (h8 : t.1 8 = 0) (hlo : lo < 1000) (hhi : hi < 1000) :
    (∃ v x, numP T n a lo hi = .inl v ∧ f_X5_readNumber t mk (nI lo) (nI hi) = some (nI v, x) ∧ KK5 t x ∧ TK5 x T n a ∧ x.1 8 = 0 ∧ x.1 9 = t.1 9) ∨ ∃ k q x, numP T n a lo hi = .inr (k, q) ∧ f_X5_readNumber t mk (nI lo) (nI hi) = some (0, x) ∧ KK5 t x ∧ x.1 8 = nI k ∧ x.1 9 = nI q ∧ 1 ≤ k ∧ k < 5 := by
  obtain ⟨x1, e1, k1, t1⟩ := step_5 mk hR h7 ha
  have x8 : x1.1 8 = 0 := (k1.2 8 (by decide) (by decide) (by decide) (by decide)).trans h8
  have x9 : x1.1 9 = t.1 9 := k1.2 9 (by decide) (by decide) (by decide) (by decide)
  have hl := kd_lt T n a
  unfold f_X5_readNumber numP
  rw [e1, ob_s, t1.2.2.1]
  by_cases c : kdT T n a = 2
  · have hv := (nv_lt c).1
    have x5 := t1.2.2.2 c
    rw [if_pos (show nI (kdT T n a) = (2 : Int32) from congrArg nI c), if_pos c, x5]
    obtain ⟨y, f1, f2, f3, f4⟩ := refuse_5 (mk := mk) (k := 3) (by decide) (by decide) t1
    have hk := flT_k (T := T) (n := n) (a := a) (k := 3) (by decide) (by decide)
    by_cases c1 : nvT T n a < lo
    · right
      rw [if_pos (nI_lt c1 (by omega)), if_pos (Or.inl c1), show (3 : Int32) = nI 3 from rfl, f1, ob_s, f3, if_neg (nI_ne_0 hk.1 hk.2)]
      exact ⟨_, _, y, rfl, rfl, k1.kk.tr f2, f3, f4, hk.1, hk.2⟩
    · rw [if_neg (nI_nlt (by omega) (by omega))]
      by_cases c2 : hi < nvT T n a
      · right
        rw [if_neg (nI_ge c2 (by omega)), if_pos (Or.inr c2), show (3 : Int32) = nI 3 from rfl, f1, ob_s, f3, if_neg (nI_ne_0 hk.1 hk.2)]
        exact ⟨_, _, y, rfl, rfl, k1.kk.tr f2, f3, f4, hk.1, hk.2⟩
      · left
        rw [if_pos (nI_le (by omega) (by omega)), if_neg (by omega), x8, if_pos rfl]
        exact ⟨_, x1, rfl, rfl, k1.kk, t1, x8, x9⟩
  · right
    obtain ⟨y, f1, f2, f3, f4⟩ := refuse_5 (mk := mk) (k := 2) (by decide) (by decide) t1
    have hk := flT_k (T := T) (n := n) (a := a) (k := 2) (by decide) (by decide)
    rw [if_neg (show ¬ nI (kdT T n a) = (2 : Int32) from nI_neq (b := 2) (by omega) (by decide) c), if_neg c, show (2 : Int32) = nI 2 from rfl, f1, ob_s, f3, if_neg (nI_ne_0 hk.1 hk.2)]
    exact ⟨_, _, y, rfl, rfl, k1.kk.tr f2, f3, f4, hk.1, hk.2⟩
theorem readStop_5 (hR : RB5 t T n) {a p : Nat} {l : List Int64} (hT : TK5 t T n a) (ha : a ≤ n) (h8 : t.1 8 = 0) (h9 : t.1 9 = -1) (hP : PL o p l) : ∃ x, f_X5_readStop t mk = some x ∧ KK5 t x ∧ MC T n x o (stopP T n a p l) := by
  have hl := kd_lt T n a
  unfold f_X5_readStop stopP
  rw [hT.2.2.1]
  by_cases c : kdT T n a = 1
  · obtain ⟨x, e1, k1, t1⟩ := step_5 mk hR hT.2.1 (enT_le ha)
    rw [if_pos (show nI (kdT T n a) = (1 : Int32) from congrArg nI c), if_pos c, e1, ob_s]
    exact ⟨x, rfl, k1.kk, t1, enT_le ha, (k1.2 8 (by decide) (by decide) (by decide) (by decide)).trans h8, (k1.2 9 (by decide) (by decide) (by decide) (by decide)).trans h9, hP⟩
  · obtain ⟨y, f1, f2, f3, f4⟩ := refuse_5 (mk := mk) (k := 2) (by decide) (by decide) hT
    have hk := flT_k (T := T) (n := n) (a := a) (k := 2) (by decide) (by decide)
    rw [if_neg (show ¬ nI (kdT T n a) = (1 : Int32) from nI_neq (b := 1) (by omega) (by decide) c), if_neg c, show (2 : Int32) = nI 2 from rfl, f1, ob_s]
    exact ⟨y, rfl, f2, f3, f4, hk.1, hk.2, _, _, hP⟩
/-- a step, then the sign -/
theorem stepStop_5 (hR : RB5 t T n) {b p : Nat} {l : List Int64} (h7 : t.1 7 = nI b) (hb : b ≤ n) (h8 : t.1 8 = 0) (h9 : t.1 9 = -1) (hP : PL o p l) : ∃ x, (f_X5_step t mk).bind (fun x10 => (f_X5_readStop x10 mk).bind (fun x13 => some (x13, o))) = some (x, o) ∧ KK5 t x ∧ MC T n x o (stopP T n b p l) := by
  obtain ⟨x1, e1, k1, t1⟩ := step_5 mk hR h7 hb
  obtain ⟨x2, e2, k2, m2⟩ := readStop_5 (mk := mk) (hR.k k1) t1 hb ((k1.2 8 (by decide) (by decide) (by decide) (by decide)).trans h8) ((k1.2 9 (by decide) (by decide) (by decide) (by decide)).trans h9) hP
  exact ⟨x2, by rw [e1, ob_s, e2, ob_s], k1.kk.tr k2, m2⟩
theorem first_5 (hR : RB5 t T n) (hm : MT3 mk) (hO : ∃ p l, PL o p l) {a : Nat} (hT : TK5 t T n a) (ha : a ≤ n) (h8 : t.1 8 = 0) (h9 : t.1 9 = -1) : ∃ x y, f_X5_readFirst t mk o = some (x, y) ∧ KK5 t x ∧ MC T n x y (firstP T n a) := by
  have hl := kd_lt T n a
  have h4 := hT.2.2.1
  have hk : ∀ k, k < 11 → (t.1 4 = nI k ↔ kdT T n a = k) := fun k hk => by rw [h4]; exact nI_eq (by omega) (by omega)
  unfold f_X5_readFirst firstP
  by_cases c5 : kdT T n a = 5
  · rw [if_pos (show t.1 4 = (5 : Int32) from (hk 5 (by decide)).mpr c5), if_pos c5]
    rcases readNumber_5 (mk := mk) hR (lo := 1) (hi := 64) hT.2.1 (enT_le ha) h8 (by decide) (by decide) with ⟨v, x, e1, e2, k1, t1, y8, y9⟩ | ⟨k, q, x, e1, e2, k1, y8, y9, b1, b2⟩
    · rw [show (1 : Int32) = nI 1 from rfl, show (64 : Int32) = nI 64 from rfl, e2, ob_s, e1]
      dsimp only
      have hv : v ≤ 64 := by
        unfold numP at e1
        split at e1
        · split at e1
          · cases e1
          · have := Sum.inl.inj e1
            omega
        · cases e1
      obtain ⟨w, w1, w2⟩ := clear_10 o hv
      obtain ⟨y, f1, f2, f3⟩ := stepStop_5 (mk := mk) (o := w) (hR.kk k1) t1.2.1 (enT_le (enT_le ha)) y8 (y9.trans h9) w2
      rw [w1, ob_s, y8, if_pos rfl]
      exact ⟨y, w, f1, k1.tr f2, f3⟩
    · rw [show (1 : Int32) = nI 1 from rfl, show (64 : Int32) = nI 64 from rfl, e2, ob_s, e1]
      dsimp only
      obtain ⟨w, w1, w2⟩ := clear_10 o (n := 0) (by decide)
      have w1 : f_X10_clear o 0 = some w := w1
      rw [w1, ob_s, y8, if_neg (nI_ne_0 b1 b2)]
      exact ⟨x, w, rfl, k1, y8, y9, b1, b2, _, _, w2⟩
  rw [if_neg (show ¬ t.1 4 = (5 : Int32) from fun z => c5 ((hk 5 (by decide)).mp z)), if_neg c5]
  by_cases c6 : kdT T n a = 6
  · rw [if_pos (show t.1 4 = (6 : Int32) from (hk 6 (by decide)).mpr c6), if_pos c6]
    have bnd8 : ∀ {b v : Nat}, numP T n b 2 8 = .inl v → 2 ≤ v ∧ v ≤ 8 := fun e => by
      unfold numP at e
      split at e
      · split at e
        · cases e
        · have := Sum.inl.inj e
          omega
      · cases e
    rw [show (2 : Int32) = nI 2 from rfl, show (8 : Int32) = nI 8 from rfl]
    rcases readNumber_5 (mk := mk) hR (lo := 2) (hi := 8) hT.2.1 (enT_le ha) h8 (by decide) (by decide) with ⟨v, x, e1, e2, k1, t1, y8, y9⟩ | ⟨k, q, x, e1, e2, k1, y8, y9, b1, b2⟩
    · rw [e2, ob_s, e1]
      dsimp only
      rw [y8, if_pos rfl]
      have hv := bnd8 e1
      rcases readNumber_5 (mk := mk) (hR.kk k1) (lo := 2) (hi := 8) t1.2.1 (enT_le (enT_le ha)) y8 (by decide) (by decide) with ⟨u, x', e1', e2', k1', t1', y8', y9'⟩ | ⟨k, q, x', e1', e2', k1', y8', y9', b1', b2'⟩
      · rw [e2', ob_s, e1']
        dsimp only
        rw [y8', if_pos rfl]
        have hu := bnd8 e1'
        obtain ⟨w, w1, w2⟩ := grid_3 (st := mk) (sto := o) (a := v) (b := u) hv.2 hu.2 hv.1 hu.1
        obtain ⟨y, f1, f2, f3⟩ := stepStop_5 (mk := mk) (o := w) ((hR.kk k1).kk k1') t1'.2.1 (enT_le (enT_le (enT_le ha))) y8' (y9'.trans (y9.trans h9)) w2
        rw [w1, ob_s, if_pos rfl]
        exact ⟨y, w, f1, (k1.tr k1').tr f2, f3⟩
      · rw [e2', ob_s, e1']
        dsimp only
        rw [y8', if_neg (nI_ne_0 b1' b2'), if_neg (nI_ne_0 b1' b2')]
        exact ⟨x', o, rfl, k1.tr k1', y8', y9', b1', b2', hO⟩
    · rw [e2, ob_s, e1]
      dsimp only
      rw [y8, if_neg (nI_ne_0 b1 b2), if_neg (nI_ne_0 b1 b2), if_neg (nI_ne_0 b1 b2)]
      exact ⟨x, o, rfl, k1, y8, y9, b1, b2, hO⟩
  rw [if_neg (show ¬ t.1 4 = (6 : Int32) from fun z => c6 ((hk 6 (by decide)).mp z)), if_neg c6]
  by_cases c7 : kdT T n a = 7
  · rw [if_pos (show t.1 4 = (7 : Int32) from (hk 7 (by decide)).mpr c7), if_pos c7]
    obtain ⟨w0, v1, v2⟩ := clear_10 o (n := 15) (by decide)
    obtain ⟨w, w1, w2⟩ := duads_3 (z := 0) hm (by decide) v2 (by show 0 + (dgL 0).length ≤ 64; rw [dg_rg.2.2.1]; decide)
    have hmk : f_X3_makeDuads mk o = some w := by
      unfold f_X3_makeDuads
      rw [show (15 : Int32) = nI 15 from rfl, v1, ob_s, show (0 : Int32) = nI 0 from rfl, w1, ob_s]
    obtain ⟨y, f1, f2, f3⟩ := stepStop_5 (mk := mk) (o := w) hR hT.2.1 (enT_le ha) h8 h9 w2
    rw [hmk, ob_s, h8, if_pos rfl]
    exact ⟨y, w, f1, f2, f3⟩
  rw [if_neg (show ¬ t.1 4 = (7 : Int32) from fun z => c7 ((hk 7 (by decide)).mp z)), if_neg c7]
  by_cases c8 : kdT T n a = 8
  · rw [if_pos (show t.1 4 = (8 : Int32) from (hk 8 (by decide)).mpr c8), if_pos c8]
    obtain ⟨w, w1, w2⟩ := sixes_3 (stm := mk) (sto := o) hm
    obtain ⟨y, f1, f2, f3⟩ := stepStop_5 (mk := mk) (o := w) hR hT.2.1 (enT_le ha) h8 h9 w2
    rw [w1, ob_s, h8, if_pos rfl]
    exact ⟨y, w, f1, f2, f3⟩
  rw [if_neg (show ¬ t.1 4 = (8 : Int32) from fun z => c8 ((hk 8 (by decide)).mp z)), if_neg c8]
  by_cases c9 : kdT T n a = 9
  · rw [if_pos (show t.1 4 = (9 : Int32) from (hk 9 (by decide)).mpr c9), if_pos c9]
    obtain ⟨w, w1, w2⟩ := threes_3 (stm := mk) (sto := o) hm
    obtain ⟨y, f1, f2, f3⟩ := stepStop_5 (mk := mk) (o := w) hR hT.2.1 (enT_le ha) h8 h9 w2
    rw [w1, ob_s, h8, if_pos rfl]
    exact ⟨y, w, f1, f2, f3⟩
  rw [if_neg (show ¬ t.1 4 = (9 : Int32) from fun z => c9 ((hk 9 (by decide)).mp z)), if_neg c9]
  obtain ⟨y, f1, f2, f3, f4⟩ := refuse_5 (mk := mk) (k := 2) (by decide) (by decide) hT
  have hk2 := flT_k (T := T) (n := n) (a := a) (k := 2) (by decide) (by decide)
  rw [show (2 : Int32) = nI 2 from rfl, f1, ob_s, f3, if_neg (nI_ne_0 hk2.1 hk2.2)]
  exact ⟨y, o, rfl, f2, f3, f4, hk2.1, hk2.2, hO⟩
theorem pcn_add {s : Int64} {v : Nat} (hv : v < 64) (h : tb s v = false) : pcn (s ||| bit1 v) = pcn s + 1 := by
  unfold pcn
  have e : cnt (tb (s ||| bit1 v)) 64 = cnt (fun i => tb s i || decide (i = v)) 64 := cnt_cong (fun i _ => by rw [tb_or, tb_bit1 hv])
  rw [e]
  exact cnt_or (p := tb s) (q := fun i => decide (i = v)) h (fun _ => rfl) hv
theorem points_5 {p : Nat} {l : List Int64} (hp : PL o p l) : ∀ (f b c : Nat) (t : OS) (s : Int64), f + c = 66 → pcn s = c → (∀ i, tb s i = true → i < p) → RB5 t T n → TK5 t T n b → b ≤ n → t.1 8 = 0 → t.1 9 = -1 →
    ∃ k x s', lpv (f_X5_readLine_39 mk o) (t, s, nI c) = some (k, x, s') ∧ KK5 t x ∧ ((k = 0 ∧ ∃ b', TK5 x T n b' ∧ pntP T n p l f b s = .inr (flT T n b' 3)) ∨ (k = 1 ∧ ∃ b', TK5 x T n b' ∧ b' ≤ n ∧ x.1 8 = 0 ∧ x.1 9 = -1 ∧ RB5 x T n ∧ pntP T n p l f b s = if pcn s' < 2 then .inr (flT T n b' 2) else stopP T n b' p (l ++ [s']))) := by
  have hp64 := hp.2.2.1
  intro f
  induction f with
  | zero =>
    intro b c t s hf hc
    have := pcn_le s
    omega
  | succ f ih =>
    intro b c t s hf hc hs hR hT hb h8 h9
    have hcs := pcn_le s
    have hl := kd_lt T n b
    have h39 : f_X5_readLine_39 mk o (t, s, nI c) = if kdT T n b = 2 then (if nvT T n b < p ∧ tb s (nvT T n b) = false then (f_X5_step t mk).bind (fun x18 => some (.inl (x18, s ||| bit1 (nvT T n b), nI (c + 1)))) else some (.inr (0, t, s))) else some (.inr (1, t, s)) := by
      unfold f_X5_readLine_39
      dsimp only
      rw [if_neg (show ¬ (64 : Int32) < nI c from nI_nlt (a := 64) (by omega) (by decide)), hT.2.2.1]
      by_cases c2 : kdT T n b = 2
      · have hv := (nv_lt c2).1
        rw [if_pos (show nI (kdT T n b) = (2 : Int32) from congrArg nI c2), if_pos c2, hT.2.2.2 c2]
        unfold f_X10_hasPoint
        rw [if_neg (nI_pos (by omega)), hp.1]
        by_cases c3 : nvT T n b < p
        · rw [if_neg (nI_ge c3 (by omega)), ob_s, if_neg ne10, has_10 (by omega), ob_s]
          dsimp only [bnd]
          rw [sh1 (by omega), nI_1]
          cases c4 : tb s (nvT T n b) with
          | true => rw [if_neg b2t, if_neg (fun z => by cases z.2)]
          | false => rw [if_pos b2f, if_pos ⟨c3, rfl⟩]
        · rw [if_pos (nI_le (by omega) (by omega)), ob_s, if_pos rfl, if_neg (fun z => c3 z.1)]
      · rw [if_neg (show ¬ nI (kdT T n b) = (2 : Int32) from nI_neq (b := 2) (by omega) (by decide) c2), if_neg c2]
    unfold pntP
    by_cases c2 : kdT T n b = 2
    · rw [if_pos c2] at h39
      rw [if_pos c2]
      by_cases c3 : nvT T n b < p ∧ tb s (nvT T n b) = false
      · rw [if_pos c3] at h39
        rw [if_pos c3]
        obtain ⟨x1, e1, k1, t1⟩ := step_5 mk hR hT.2.1 (enT_le hb)
        rw [e1, ob_s] at h39
        obtain ⟨k, x, s', g1, g2, g3⟩ := ih (enT T n b) (c + 1) x1 (s ||| bit1 (nvT T n b)) (by omega) (by rw [pcn_add (by omega) c3.2, hc]) (fun i hi => by
          rw [tb_or, Bool.or_eq_true, tb_bit1 (by omega), decide_eq_true_iff] at hi
          rcases hi with hi | hi
          · exact hs i hi
          · rw [hi]; exact c3.1) (hR.k k1) t1 (enT_le hb) ((k1.2 8 (by decide) (by decide) (by decide) (by decide)).trans h8) ((k1.2 9 (by decide) (by decide) (by decide) (by decide)).trans h9)
        exact ⟨k, x, s', by rw [lpv_in h39]; exact g1, k1.kk.tr g2, g3⟩
      · rw [if_neg c3] at h39
        rw [if_neg c3]
        exact ⟨0, t, s, lpv_out h39, KK5.rf, Or.inl ⟨rfl, b, hT, rfl⟩⟩
    · rw [if_neg c2] at h39
      rw [if_neg c2]
      exact ⟨1, t, s, lpv_out h39, KK5.rf, Or.inr ⟨rfl, b, hT, hb, h8, h9, hR, rfl⟩⟩
theorem line_5 (hR : RB5 t T n) {a p : Nat} {l : List Int64} (hT : TK5 t T n a) (ha : a ≤ n) (h8 : t.1 8 = 0) (h9 : t.1 9 = -1) (hP : PL o p l) : ∃ x y, f_X5_readLine t mk o = some (x, y) ∧ KK5 t x ∧ MC T n x y (lineP T n a p l) := by
  have hl := kd_lt T n a
  have hl64 := hP.2.2.2.1
  unfold f_X5_readLine lineP
  rw [hT.2.2.1]
  by_cases c : kdT T n a = 10
  · rw [if_pos (show nI (kdT T n a) = (10 : Int32) from congrArg nI c), if_pos c, hP.2.1]
    by_cases d : 64 ≤ l.length
    · obtain ⟨y, f1, f2, f3, f4⟩ := refuse_5 (mk := mk) (k := 4) (by decide) (by decide) hT
      have hk := flT_k (T := T) (n := n) (a := a) (k := 4) (by decide) (by decide)
      rw [if_neg (show ¬ nI l.length < (64 : Int32) from nI_nlt (b := 64) d (by omega)), if_pos d, show (4 : Int32) = nI 4 from rfl, f1, ob_s]
      exact ⟨y, o, rfl, f2, f3, f4, hk.1, hk.2, _, _, hP⟩
    · obtain ⟨x1, e1, k1, t1⟩ := step_5 mk hR hT.2.1 (enT_le ha)
      obtain ⟨k, x, s', g1, g2, g3⟩ := points_5 (mk := mk) hP 66 (enT T n a) 0 x1 0 (by decide) pcn_zero (fun i hi => by rw [tb_0] at hi; cases hi) (hR.k k1) t1 (enT_le ha) ((k1.2 8 (by decide) (by decide) (by decide) (by decide)).trans h8) ((k1.2 9 (by decide) (by decide) (by decide) (by decide)).trans h9)
      rw [if_pos (show nI l.length < (64 : Int32) from nI_lt (b := 64) (by omega) (by decide)), if_neg d, e1, ob_s, show ((0 : Int32)) = nI 0 from rfl, g1, ob_s]
      dsimp only
      rcases g3 with ⟨rfl, b', h1, h2⟩ | ⟨rfl, b', h1, h2, h3, h4, h5, h6⟩
      · obtain ⟨y, f1, f2, f3, f4⟩ := refuse_5 (mk := mk) (k := 3) (by decide) (by decide) h1
        have hk := flT_k (T := T) (n := n) (a := b') (k := 3) (by decide) (by decide)
        rw [if_pos rfl, show (3 : Int32) = nI 3 from rfl, f1, ob_s, h2]
        exact ⟨y, o, rfl, (k1.kk.tr g2).tr f2, f3, f4, hk.1, hk.2, _, _, hP⟩
      · have hpc := pcn_le s'
        rw [if_neg (by decide), bitCount_13, ob_s, h6]
        by_cases e : pcn s' < 2
        · obtain ⟨y, f1, f2, f3, f4⟩ := refuse_5 (mk := mk) (k := 2) (by decide) (by decide) h1
          have hk := flT_k (T := T) (n := n) (a := b') (k := 2) (by decide) (by decide)
          rw [if_neg (show ¬ (2 : Int32) ≤ nI (pcn s') from nI_ge (b := 2) e (by decide)), if_pos e, show (2 : Int32) = nI 2 from rfl, f1, ob_s]
          exact ⟨y, o, rfl, (k1.kk.tr g2).tr f2, f3, f4, hk.1, hk.2, _, _, hP⟩
        · obtain ⟨o', a1, a2⟩ := append_10 hP s' (by omega)
          obtain ⟨y, f1, f2, f3⟩ := readStop_5 (mk := mk) h5 h1 h2 h3 h4 a2
          rw [if_pos (show (2 : Int32) ≤ nI (pcn s') from nI_le (a := 2) (by omega) (by omega)), if_neg e, a1, ob_s, f1, ob_s]
          exact ⟨y, o', rfl, (k1.kk.tr g2).tr f2, f3⟩
  · obtain ⟨y, f1, f2, f3, f4⟩ := refuse_5 (mk := mk) (k := 2) (by decide) (by decide) hT
    have hk := flT_k (T := T) (n := n) (a := a) (k := 2) (by decide) (by decide)
    rw [if_neg (show ¬ nI (kdT T n a) = (10 : Int32) from nI_neq (b := 10) (by omega) (by decide) c), if_neg c, show (2 : Int32) = nI 2 from rfl, f1, ob_s]
    exact ⟨y, o, rfl, f2, f3, f4, hk.1, hk.2, _, _, hP⟩
theorem lines_5 {t o : OS} {r : RD} (hR : RB5 t T n) (hM : MC T n t o r) : ∃ x y, lpv (f_X5_read_49 mk) (t, o, 0) = some (x, y) ∧ KK5 t x ∧ MC T n x y (linesP T n 700 r) := by
  have key := lpv_inv (f := f_X5_read_49 mk) (fun k z => k ≤ 700 ∧ z.2.2 = nI k ∧ KK5 t z.1 ∧ ∃ r', MC T n z.1 z.2.1 r' ∧ linesP T n (700 - k) r' = linesP T n 700 r) 700 (fun z => KK5 t z.1 ∧ MC T n z.1 z.2 (linesP T n 700 r)) (fun k z hk hI => ?_) (fun z hI => ?_) 0 (t, o, 0) (Nat.zero_le _) ⟨by omega, rfl, KK5.rf, r, hM, rfl⟩
  · obtain ⟨⟨x, y⟩, e1, e2, e3⟩ := key
    exact ⟨x, y, e1, e2, e3⟩
  · obtain ⟨x, y, c⟩ := z
    obtain ⟨g0, g1, g2, r', g3, g4⟩ := hI
    dsimp only at g1 g2 g3
    subst g1
    rw [show 700 - k = (700 - (k + 1)) + 1 by omega] at g4
    have h700 : ¬ (700 : Int32) ≤ nI k := nI_ge (b := 700) hk (by decide)
    cases r' with
    | inr e =>
      right
      obtain ⟨k', q⟩ := e
      rw [linesP_r] at g4
      obtain ⟨m1, m2, m3, m4, -⟩ := id g3
      refine ⟨(x, y), ?_, g2, by rw [← g4]; exact g3⟩
      unfold f_X5_read_49
      dsimp only
      rw [if_neg h700, m1, if_neg (nI_ne_0 m3 m4)]
    | inl e =>
      obtain ⟨a, p, l⟩ := e
      rw [linesP_l] at g4
      obtain ⟨m1, m2, m3, m4, m5⟩ := id g3
      have hl := kd_lt T n a
      by_cases c0 : kdT T n a = 0
      · right
        rw [if_pos c0] at g4
        refine ⟨(x, y), ?_, g2, by rw [← g4]; exact g3⟩
        unfold f_X5_read_49
        dsimp only
        rw [if_neg h700, m3, if_pos rfl, m1.2.2.1, if_pos (show nI (kdT T n a) = (0 : Int32) from congrArg nI c0)]
      · left
        rw [if_neg c0] at g4
        obtain ⟨x', y', f1, f2, f3⟩ := line_5 (mk := mk) (hR.kk g2) m1 m2 m3 m4 m5
        refine ⟨(x', y', nI (k + 1)), ?_, by omega, rfl, g2.tr f2, _, f3, g4⟩
        unfold f_X5_read_49
        dsimp only
        rw [if_neg h700, m3, if_pos rfl, m1.2.2.1, if_neg (show ¬ nI (kdT T n a) = (0 : Int32) from nI_neq (b := 0) (by omega) (by decide) c0), f1, ob_s]
        dsimp only [bnd]
        rw [nI_1]
  · obtain ⟨x, y, c⟩ := z
    obtain ⟨g0, g1, g2, r', g3, g4⟩ := hI
    dsimp only at g1 g2 g3
    subst g1
    refine ⟨(x, y), ?_, g2, by rw [← g4]; exact g3⟩
    unfold f_X5_read_49
    dsimp only
    rw [if_pos (show (700 : Int32) ≤ nI 700 by decide)]
/-- the whole text -/
noncomputable def readP (T : Nat → Nat) (n : Nat) : RD := if kdT T n 0 = 0 then .inl (0, 0, []) else linesP T n 700 (firstP T n 0)
end RC
