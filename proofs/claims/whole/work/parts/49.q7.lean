/-! questions: code -/
theorem shl1 : ∀ d, d < 31 → (1 : Int32) <<< (nI d &&& 31) = nI (2 ^ d) := by decide +kernel
theorem bt_1 : ∀ i, i < 32 → bt (1 : Int32) i = decide (i = 0) := by decide +kernel
theorem and_1 (y : Int32) : y &&& 1 = b2i (bt y 0) := by
  apply b_ext
  intro i hi
  rw [b_and, bt_1 i hi]
  have h0 : ∀ b : Bool, ∀ i, i < 32 → bt (b2i b) i = (decide (i = 0) && b) := by decide +kernel
  rw [h0 _ i hi]
  by_cases q : i = 0
  · rw [q]; simp
  · simp [q]
theorem bit_sh {t k : Nat} (ht : t < 2 ^ 31) (hk : k < 32) : (nI t >>> (nI k &&& 31)) &&& 1 = b2i (t.testBit k) := by
  rw [and_1, b_sshr k hk (nI t) (by decide)]
  congr 1
  rw [Nat.add_zero, if_pos hk, bt_nI (by omega)]
/-- words by numbers -/
def wvG (B : Nat → Int64) (d : Nat) (c : Nat → Bool) : Int64 := xorT (fun i => if c i = true then B i else 0) d
def gc (t i : Nat) : Bool := t.testBit i ^^ t.testBit (i + 1)
theorem wvG_cong {B : Nat → Int64} {d : Nat} {c e : Nat → Bool} (h : ∀ i, c i = e i) : wvG B d c = wvG B d e := by
  rw [show c = e from funext h]
theorem gray_step (B : Nat → Int64) {d t : Nat} (ht : t + 1 < 2 ^ d) : ∃ z, z < d ∧ (t + 1).testBit z = true ∧ (∀ j, j < z → (t + 1).testBit j = false) ∧ wvG B d (gc (t + 1)) = wvG B d (gc t) ^^^ B z := by
  obtain ⟨h1, h2, h3⟩ := lowN_tb d (t + 1) (by omega) ht
  have h4 := predN d (t + 1) (by omega) ht
  rw [Nat.add_sub_cancel] at h4
  refine ⟨lowN d (t + 1), h2, h1, h3, ?_⟩
  generalize lowN d (t + 1) = z at h1 h2 h3 h4
  unfold wvG
  have hz : t.testBit z = false := by rw [h4 z, if_neg (Nat.lt_irrefl _), if_pos rfl]
  have hb : ∀ i, z < i → t.testBit i = (t + 1).testBit i := fun i hi => by rw [h4 i, if_neg (by omega), if_neg (by omega)]
  have hs : ∀ i, i < z → t.testBit i = true := fun i hi => by rw [h4 i, if_pos hi]
  rw [xorT_upd (fun i => if gc (t + 1) i = true then B i else 0) (fun i => if gc t i = true then B i else 0) h2 (fun i hi hne => by
    have : gc (t + 1) i = gc t i := by
      unfold gc
      rcases Nat.lt_or_ge z i with q | q
      · rw [hb i q, hb (i + 1) (by omega)]
      · have q2 : i < z := by omega
        rw [hs i q2, h3 i q2]
        rcases Nat.lt_or_ge (i + 1) z with q3 | q3
        · rw [hs _ q3, h3 _ q3]; rfl
        · have q4 : i + 1 = z := by omega
          rw [q4, hz, h1]; rfl
    rw [this])]
  congr 1
  have e1 : gc (t + 1) z = !gc t z := by
    unfold gc
    rw [hz, h1, hb (z + 1) (by omega)]
    cases (t + 1).testBit (z + 1) <;> rfl
  rw [e1]
  cases gc t z with
  | true => rw [if_pos rfl, if_neg (by decide), x0]
  | false => rw [if_neg (by decide), if_pos (show (!false) = true from rfl), x00]
theorem gray_onto : ∀ (d t : Nat), t < 2 ^ d → ∃ s, s < 2 ^ d ∧ ∀ i, gc s i = t.testBit i := by
  intro d
  induction d with
  | zero => intro t ht; exact ⟨0, by omega, fun i => by
      have : t = 0 := by omega
      subst this
      unfold gc; rw [Nat.zero_testBit, Nat.zero_testBit]; rfl⟩
  | succ d ih =>
    intro t ht
    rw [Nat.pow_succ] at ht
    obtain ⟨s, hs, h⟩ := ih (t / 2) (by omega)
    have key : ∀ b : Bool, ∃ x, x < 2 ^ (d + 1) ∧ x.testBit 0 = b ∧ x / 2 = s := by
      intro b
      cases b with
      | false => exact ⟨2 * s, by rw [Nat.pow_succ]; omega, by rw [Nat.testBit_zero]; simp, by omega⟩
      | true => exact ⟨2 * s + 1, by rw [Nat.pow_succ]; omega, by rw [Nat.testBit_zero]; simp, by omega⟩
    obtain ⟨x, h1, h2, h3⟩ := key (t.testBit 0 ^^ s.testBit 0)
    refine ⟨x, h1, fun i => ?_⟩
    unfold gc
    cases i with
    | zero =>
      rw [h2, Nat.testBit_succ, h3]
      cases t.testBit 0 <;> cases s.testBit 0 <;> rfl
    | succ i =>
      have := h i
      unfold gc at this
      rw [Nat.testBit_succ, Nat.testBit_succ (i := i + 1), h3, this, ← Nat.testBit_succ]
theorem gray_into {d s : Nat} (hs : s < 2 ^ d) (h1 : 1 ≤ s) : ∃ t, t < 2 ^ d ∧ 1 ≤ t ∧ ∀ i, gc s i = t.testBit i := by
  refine ⟨s ^^^ s / 2, Nat.xor_lt_two_pow hs (by omega), ?_, fun i => by unfold gc; rw [Nat.testBit_xor, Nat.testBit_succ]⟩
  rcases Nat.eq_zero_or_pos (s ^^^ s / 2) with q | q
  · have : s = s / 2 := Nat.eq_of_testBit_eq (fun i => by
      have := Nat.testBit_xor s (s / 2) i
      rw [q, Nat.zero_testBit] at this
      revert this
      cases s.testBit i <;> cases (s / 2).testBit i <;> simp)
    omega
  · exact q
/-- the least of a row's numbers from 1 to n; none: -1 -/
def mnF (f : Nat → Nat) : Nat → Int32
  | 0 => -1
  | n + 1 => if mnF f n = -1 then nI (f (n + 1)) else if nI (f (n + 1)) < mnF f n then nI (f (n + 1)) else mnF f n
theorem mnF_s {f : Nat → Nat} (hf : ∀ t, f t ≤ 64) : ∀ n, 1 ≤ n → ∃ m, mnF f n = nI m ∧ (∃ t, 1 ≤ t ∧ t ≤ n ∧ f t = m) ∧ ∀ t, 1 ≤ t → t ≤ n → m ≤ f t := by
  intro n
  induction n with
  | zero => intro h; omega
  | succ n ih =>
    intro _
    simp only [mnF]
    rcases Nat.eq_zero_or_pos n with q | q
    · subst q
      rw [if_pos (show mnF f 0 = -1 from rfl)]
      exact ⟨f 1, rfl, ⟨1, by omega, by omega, rfl⟩, fun t h1 h2 => by rw [show t = 1 by omega]; omega⟩
    · obtain ⟨m, e, ⟨t, h1, h2, h3⟩, h4⟩ := ih q
      have hm : m ≤ 64 := by rw [← h3]; exact hf t
      have hf1 := hf (n + 1)
      rw [e, if_neg (nI_m1 (by omega))]
      by_cases c : f (n + 1) < m
      · rw [if_pos (nI_lt c (by omega))]
        exact ⟨_, rfl, ⟨n + 1, by omega, by omega, rfl⟩, fun s g1 g2 => by
          rcases Nat.lt_or_ge n s with q2 | q2
          · rw [show s = n + 1 by omega]; omega
          · have := h4 s g1 q2; omega⟩
      · rw [if_neg (nI_nlt (by omega) (by omega))]
        exact ⟨m, rfl, ⟨t, h1, by omega, h3⟩, fun s g1 g2 => by
          rcases Nat.lt_or_ge n s with q2 | q2
          · rw [show s = n + 1 by omega]; omega
          · exact h4 s g1 q2⟩
theorem mnF_eq {f g : Nat → Nat} (hf : ∀ t, f t ≤ 64) (hg : ∀ t, g t ≤ 64) {n : Nat} (h1 : ∀ t, 1 ≤ t → t ≤ n → ∃ s, 1 ≤ s ∧ s ≤ n ∧ g s = f t) (h2 : ∀ t, 1 ≤ t → t ≤ n → ∃ s, 1 ≤ s ∧ s ≤ n ∧ f s = g t) : mnF f n = mnF g n := by
  rcases Nat.eq_zero_or_pos n with q | q
  · subst q; rfl
  · obtain ⟨a, e1, ⟨t, a1, a2, a3⟩, a4⟩ := mnF_s hf n q
    obtain ⟨b, e2, ⟨s, b1, b2, b3⟩, b4⟩ := mnF_s hg n q
    rw [e1, e2]
    obtain ⟨t', c1, c2, c3⟩ := h1 t a1 a2
    obtain ⟨s', d1, d2, d3⟩ := h2 s b1 b2
    have := b4 t' c1 c2
    have := a4 s' d1 d2
    rw [show a = b by omega]
/-- the word of a free point -/
def bw (R : Nat → Int64) (q : Nat) : Int64 := bit1 q ||| orT (fun c => if tb (R c) q = true then bit1 c else 0) 64
def bsF (R : Nat → Int64) : Nat → List Int64
  | 0 => []
  | q + 1 => if R q = 0 then bsF R q ++ [bw R q] else bsF R q
theorem bsF_len (R : Nat → Int64) : ∀ q, (bsF R q).length + cnt (fun c => decide (R c ≠ 0)) q = q := by
  intro q
  induction q with
  | zero => rfl
  | succ q ih =>
    rw [cnt_s]
    simp only [bsF]
    by_cases h : R q = 0
    · rw [if_pos h, List.length_append, if_neg (by simp [h]), List.length_singleton]; omega
    · rw [if_neg h, if_pos (by simp [h])]; omega
theorem bsF_le (R : Nat → Int64) {a b : Nat} (h : a ≤ b) : ∃ r, bsF R b = bsF R a ++ r := by
  induction b with
  | zero => exact ⟨[], by rw [show a = 0 by omega]; rfl⟩
  | succ b ih =>
    rcases Nat.lt_or_ge b a with q | q
    · exact ⟨[], by rw [show a = b + 1 by omega, List.append_nil]⟩
    · obtain ⟨r, e⟩ := ih q
      simp only [bsF]
      by_cases z : R b = 0
      · rw [if_pos z, e]
        exact ⟨r ++ [bw R b], List.append_assoc _ _ _⟩
      · rw [if_neg z]; exact ⟨r, e⟩
theorem bsF_mono (R : Nat → Int64) {a b : Nat} (h : a ≤ b) : (bsF R a).length ≤ (bsF R b).length := by
  obtain ⟨r, e⟩ := bsF_le R h
  rw [e, List.length_append]; omega
theorem bsF_full (R : Nat → Int64) {a b : Nat} (h : a ≤ b) (hl : (bsF R b).length ≤ (bsF R a).length) : bsF R b = bsF R a := by
  obtain ⟨r, e⟩ := bsF_le R h
  rw [e, List.length_append] at hl
  have : r = [] := List.length_eq_zero_iff.mp (by omega)
  rw [e, this, List.append_nil]
def dimN (w : Wd) : Nat := w.1 - ldn (rowsF w.2 w.2.length)
def codeW (w : Wd) (a0 : Int32) : Int32 := if a0 = 0 then nI (dimN w) else if 16 < dimN w then -2 else mnF (fun t => pcn (wvG (wl (bsF (rowsF w.2 w.2.length) w.1)) (dimN w) t.testBit)) (2 ^ dimN w - 1)
theorem orAs (a b c : Int64) : a ||| b ||| c = a ||| (b ||| c) := tb_ext (fun i _ => by simp only [tb_or, Bool.or_assoc])
section CODE
variable {st stn : OS} {w : Wd}
theorem dim_len (hW : WFw w) (hn : w.1 ≤ 64) : (bsF (rowsF w.2 w.2.length) w.1).length = dimN w := by
  have hR := rowsF_RI hW hn w.2.length (Nat.le_refl _)
  have h1 := bsF_len (rowsF w.2 w.2.length) w.1
  have h2 : ldn (rowsF w.2 w.2.length) = cnt (fun c => decide (rowsF w.2 w.2.length c ≠ 0)) w.1 := by
    unfold ldn
    exact cnt_out hn (fun i a b => decide_eq_false (fun z => by have := (hR.1 i z).2.1; omega))
  unfold dimN
  rw [h2]
  omega
theorem dim_4 (hw : CW stn w) (hW : WFw w) (y : OS) : ∃ x, f_X4_dimension y stn = some (nI (dimN w), x) ∧ ∀ c, c < 64 → x.2.2.2 1 c = rowsF w.2 w.2.length c := by
  obtain ⟨x, e1, e2⟩ := reduce_4 hw hW y
  refine ⟨x, ?_, e2⟩
  unfold f_X4_dimension
  rw [e1, ob_s, hw.1.1]
  show some (nI w.1 - nI _, x) = _
  rw [pk_sub (ldn_le (rowsF_RI hW hw.1.2.2.1 _ (Nat.le_refl _)) hw.1.2.2.1)]
  rfl
theorem fill_in {y : OS} {R : Nat → Int64} (hy : ∀ c, c < 64 → y.2.2.2 1 c = R c) (b2 : Int32) {q : Nat} (hq : q < 64) : lpv (f_X4_fillBasis_43 y stn b2 (nI q)) (bit1 q, 0) = some (bw R q) := by
  have key := lpv_for (f := f_X4_fillBasis_43 y stn b2 (nI q)) (fun i => (bit1 q ||| orT (fun c => if tb (R c) q = true then bit1 c else 0) i, nI i)) 64 (r := bw R q) (fun i hi => ?_) ?_ 0 (Nat.zero_le _)
  · rw [show bit1 q ||| orT (fun c => if tb (R c) q = true then bit1 c else 0) 0 = bit1 q from or0 _] at key
    exact key
  · unfold f_X4_fillBasis_43
    dsimp only
    rw [if_neg (show ¬ (64 : Int32) ≤ nI i from nI_ge (b := 64) hi (by decide)), if_pos (inb_t hi (by omega)), nI_clamp (by omega), hy i hi, has_10 hq, ob_s]
    simp only [bnd, nI_1, orT]
    cases hb : tb (R i) q with
    | true => rw [if_neg b2t, if_pos rfl, sh1 hi, orAs]
    | false => rw [if_pos b2f, if_neg (by decide), or0, or0]
  · unfold f_X4_fillBasis_43
    dsimp only
    rw [if_pos (show (64 : Int32) ≤ nI 64 from nI_le (a := 64) (by omega) (by decide))]
    rfl
theorem fill_4 (hw : CW stn w) {y : OS} {R : Nat → Int64} (hy : ∀ c, c < 64 → y.2.2.2 1 c = R c) (hd : (bsF R w.1).length ≤ 16) : ∃ x, f_X4_fillBasis y stn = some x ∧ ∀ i, i < (bsF R w.1).length → x.2.2.2 2 i = wl (bsF R w.1) i := by
  have hn := hw.1.2.2.1
  have key := lpv_inv (f := f_X4_fillBasis_4 stn) (fun q z => z.2.2 = nI q ∧ z.2.1 = nI (bsF R q).length ∧ (∀ c, c < 64 → z.1.2.2.2 1 c = R c) ∧ ∀ i, i < (bsF R q).length → z.1.2.2.2 2 i = wl (bsF R q) i) w.1 (fun x => ∀ i, i < (bsF R w.1).length → x.2.2.2 2 i = wl (bsF R w.1) i) (fun q z hq hI => ?_) (fun z hI => ?_) 0 (y, 0, 0) (Nat.zero_le _) ⟨rfl, rfl, hy, fun i hi => by simp [bsF] at hi⟩
  · obtain ⟨x, e, h⟩ := key
    exact ⟨x, by unfold f_X4_fillBasis; rw [e, ob_s], h⟩
  · obtain ⟨x, b, c⟩ := z
    obtain ⟨e1, e2, e3, e4⟩ := hI
    dsimp only at e1 e2 e3 e4
    subst e1 e2
    have hm := bsF_mono R (Nat.le_of_lt hq)
    have hm2 := bsF_mono R (show q + 1 ≤ w.1 from hq)
    by_cases hf : 16 ≤ (bsF R q).length
    · right
      refine ⟨x, ?_, ?_⟩
      · unfold f_X4_fillBasis_4
        dsimp only
        rw [hw.1.1, if_neg (nI_ge hq (by omega)), if_neg (show ¬ (64 : Int32) ≤ nI q from nI_ge (b := 64) (by omega) (by decide)), if_pos (show (16 : Int32) ≤ nI _ from nI_le (a := 16) hf (by omega))]
      · rw [bsF_full R (Nat.le_of_lt hq) (by omega)]
        exact e4
    · left
      have hst : ∀ v, f_X4_fillBasis_4 stn (x, nI (bsF R q).length, nI q) = v ↔ (if R q = 0 then bnd (((1 : Int64)) <<< ((nI q : Int32).toInt64 &&& 63) : Int64) (fun v8 => (lpv (f_X4_fillBasis_43 x stn (nI (bsF R q).length) (nI q)) ((v8, 0))).bind (fun x24 => if inb (nI (bsF R q).length) 16 = true then bnd (oB x 2 (vp_updL (x.2.2.2 2) (nI (bsF R q).length : Int32).toNatClampNeg x24)) (fun t28 => bnd (nI (bsF R q).length + 1 : Int32) (fun v30 => bnd (nI q + 1 : Int32) (fun v32 => some (.inl ((t28, v30, v32)))))) else none)) else bnd (nI q + 1 : Int32) (fun v6 => some (.inl ((x, nI (bsF R q).length, v6))))) = v := by
        intro v
        unfold f_X4_fillBasis_4
        dsimp only
        rw [hw.1.1, if_neg (nI_ge hq (by omega)), if_neg (show ¬ (64 : Int32) ≤ nI q from nI_ge (b := 64) (by omega) (by decide)), if_neg (show ¬ (16 : Int32) ≤ nI _ from nI_ge (b := 16) (by omega) (by decide)), if_pos (inb_t (by omega) (by omega)), nI_clamp (by omega), e3 q (by omega)]
        simp only [lg_cmp_eq]
      by_cases hz : R q = 0
      · have e : bsF R (q + 1) = bsF R q ++ [bw R q] := by simp only [bsF, if_pos hz]
        refine ⟨(oB x 2 (vp_updL (x.2.2.2 2) (bsF R q).length (bw R q)), nI ((bsF R q).length + 1), nI (q + 1)), ?_, rfl, ?_, fun c hc => e3 c hc, fun i hi => ?_⟩
        · rw [hst, if_pos hz, sh1 (by omega)]
          dsimp only [bnd]
          rw [fill_in e3 _ (by omega), ob_s, if_pos (inb_t (by omega) (by omega)), nI_clamp (by omega), nI_1, nI_1]
        · dsimp only
          rw [e, List.length_append, List.length_singleton]
        · dsimp only
          rw [oB_self]
          unfold vp_updL
          rw [e, List.length_append, List.length_singleton] at hi
          by_cases q2 : i = (bsF R q).length
          · rw [if_pos q2, e, q2, wl_last]
          · rw [if_neg q2, e, wl_app (by omega)]
            exact e4 i (by omega)
      · have e : bsF R (q + 1) = bsF R q := by simp only [bsF, if_neg hz]
        refine ⟨(x, nI (bsF R q).length, nI (q + 1)), ?_, rfl, by dsimp only; rw [e], e3, by dsimp only; rw [e]; exact e4⟩
        rw [hst, if_neg hz]
        dsimp only [bnd]
        rw [nI_1]
  · obtain ⟨x, b, c⟩ := z
    obtain ⟨e1, e2, e3, e4⟩ := hI
    dsimp only at e1 e2 e3 e4
    subst e1 e2
    refine ⟨x, ?_, e4⟩
    unfold f_X4_fillBasis_4
    dsimp only
    rw [hw.1.1, if_pos (nI_le (Nat.le_refl _) (by omega))]
theorem least_lp {x : OS} {B : Nat → Int64} {d : Nat} (hd : d ≤ 16) (hB : ∀ i, i < d → x.2.2.2 2 i = B i) : lpv (f_X4_leastWord_28 x stn (nI d)) (-1, 0, 1) = some (mnF (fun t => pcn (wvG B d (gc t))) (2 ^ d - 1)) := by
  have hp : 2 ^ d ≤ 65536 := Nat.pow_le_pow_right (n := 2) (by decide) hd
  have hp1 : 1 ≤ 2 ^ d := Nat.one_le_two_pow
  have key := lpv_for (f := f_X4_leastWord_28 x stn (nI d)) (fun t => (mnF (fun t => pcn (wvG B d (gc t))) t, wvG B d (gc t), nI (t + 1))) (2 ^ d - 1) (r := mnF (fun t => pcn (wvG B d (gc t))) (2 ^ d - 1)) (fun t ht => ?_) ?_ 0 (Nat.zero_le _)
  · have e : wvG B d (gc 0) = 0 := by
      unfold wvG
      apply tb_ext
      intro i _
      rw [tb_0]
      exact tb_xorT0 (fun k _ => by
        have : gc 0 k = false := by unfold gc; rw [Nat.zero_testBit, Nat.zero_testBit]; rfl
        rw [this, if_neg (by decide), tb_0])
    rw [e] at key
    exact key
  · obtain ⟨z, h1, h2, h3, h4⟩ := gray_step B (d := d) (t := t) (by omega)
    unfold f_X4_leastWord_28
    dsimp only
    rw [shl1 d (by omega), if_neg (nI_ge (show t + 1 < 2 ^ d by omega) (by omega)), ntz_6 (k := z) (by rw [bt_nI (by omega)]; exact h2) (fun j hj => by rw [bt_nI (by omega)]; exact h3 j hj), ob_s, if_neg (show ¬ (16 : Int32) ≤ nI z from nI_ge (b := 16) (by omega) (by decide)), if_pos (inb_t (by omega) (by omega)), nI_clamp (by omega), hB z h1]
    dsimp only [bnd]
    rw [bitCount_13, ob_s, ← h4, nI_1]
    simp only [mnF]
    by_cases q : mnF (fun t => pcn (wvG B d (gc t))) t = -1
    · rw [if_pos q, if_pos q]
    · rw [if_neg q, if_neg q, min_J9, ob_s]
  · unfold f_X4_leastWord_28
    dsimp only
    rw [shl1 d (by omega), if_pos (nI_le (show 2 ^ d ≤ 2 ^ d - 1 + 1 by omega) (by omega))]
theorem mn_gray (B : Nat → Int64) (d : Nat) : mnF (fun t => pcn (wvG B d (gc t))) (2 ^ d - 1) = mnF (fun t => pcn (wvG B d t.testBit)) (2 ^ d - 1) := by
  have hp1 : 1 ≤ 2 ^ d := Nat.one_le_two_pow
  refine mnF_eq (fun t => pcn_le _) (fun t => pcn_le _) (fun t h1 h2 => ?_) (fun t h1 h2 => ?_)
  · obtain ⟨s, g1, g2, g3⟩ := gray_into (d := d) (s := t) (by omega) h1
    refine ⟨s, g2, by omega, ?_⟩
    rw [wvG_cong (e := s.testBit) (fun i => g3 i)]
  · obtain ⟨s, g1, g2⟩ := gray_onto d t (by omega)
    refine ⟨s, ?_, by omega, ?_⟩
    · rcases Nat.eq_zero_or_pos s with q | q
      · subst q
        have : t = 0 := Nat.eq_of_testBit_eq (fun i => by
          rw [← g2 i]; unfold gc; rw [Nat.zero_testBit, Nat.zero_testBit]; rfl)
        omega
      · exact q
    · rw [wvG_cong (c := gc s) (e := t.testBit) (fun i => g2 i)]
theorem leastWord_4 (hw : CW stn w) (hW : WFw w) (y : OS) : ∃ x, f_X4_leastWord y stn = some (codeW w 1, x) := by
  have hn := hw.1.2.2.1
  obtain ⟨x, e1, e2⟩ := dim_4 hw hW y
  have hlen := dim_len hW hn
  have hle : dimN w ≤ 64 := by unfold dimN; omega
  have hc : codeW w 1 = if 16 < dimN w then -2 else mnF (fun t => pcn (wvG (wl (bsF (rowsF w.2 w.2.length) w.1)) (dimN w) t.testBit)) (2 ^ dimN w - 1) := by
    unfold codeW; rw [if_neg (by decide)]
  rw [hc]
  unfold f_X4_leastWord
  rw [e1, ob_s]
  by_cases h : 16 < dimN w
  · rw [if_pos h]
    dsimp only
    rw [if_neg (show ¬ nI (dimN w) ≤ (16 : Int32) from nI_ge (a := 16) h (by omega))]
    exact ⟨_, rfl⟩
  · rw [if_neg h]
    dsimp only
    rw [if_pos (show nI (dimN w) ≤ (16 : Int32) from nI_le (b := 16) (by omega) (by decide))]
    obtain ⟨v, f1, f2⟩ := fill_4 hw e2 (by omega)
    rw [f1, ob_s, least_lp (by omega) (fun i hi => f2 i (by omega)), ob_s, mn_gray]
    exact ⟨_, rfl⟩
theorem dim_12 (hW : WFw w) (h : RWo st w.1 w.2) : (st.1 0) - nI (ldn (rowsF w.2 w.2.length)) = nI (dimN w) := by
  rw [h.1, pk_sub (ldn_le (rowsF_RI hW h.2.2.1 _ (Nat.le_refl _)) h.2.2.1)]
  rfl
theorem ctold_12 {x : OS} {R : Nat → Int64} {N n : Nat} {t : Nat → Nat} (hR : RI N R) (hN : N ≤ 64) (hE : EQ x R n t) : ∃ v, lpv (f_X12_code_61 x (nI n)) (0, 0) = some v ∧ ∀ c, tb v c = decide (R c ≠ 0) := by
  have hn64 : n ≤ 64 := by have := ldn_le hR hN; rw [hE.2.2.2.1]; omega
  refine ⟨orT (fun k => bit1 (t k)) n, lpv_for (f := f_X12_code_61 x (nI n)) (fun i => (orT (fun k => bit1 (t k)) i, nI i)) n (fun i hi => ?_) ?_ 0 (Nat.zero_le _), fun c => ?_⟩
  · obtain ⟨g1, g2, g3⟩ := hE.1 i hi
    unfold f_X12_code_61
    dsimp only
    rw [if_neg (nI_ge hi (by omega)), if_pos (inb_t (by omega) (by omega)), nI_clamp (by omega), g2, bit_12 (hR.lt64 g1), ob_s]
    simp only [bnd, nI_1, orT]
  · unfold f_X12_code_61
    dsimp only
    rw [if_pos (nI_le (Nat.le_refl _) (by omega))]
  · by_cases z : R c ≠ 0
    · rw [decide_eq_true z, tb_orT]
      obtain ⟨k, hk, e⟩ := hE.2.1 c z
      exact ⟨k, hk, by rw [e, tb_bit1 (hR.lt64 z)]; exact decide_eq_true rfl⟩
    · rw [decide_eq_false z]
      apply eq_false_of_ne_true
      rw [tb_orT]
      intro ⟨k, hk, e⟩
      have g1 := (hE.1 k hk).1
      rw [tb_bit1 (hR.lt64 g1)] at e
      have := of_decide_eq_true e
      subst this
      exact z g1
theorem word_12 {x : OS} {R : Nat → Int64} {N n : Nat} {t : Nat → Nat} (hR : RI N R) (hN : N ≤ 64) (hE : EQ x R n t) (b4 : Int64) {m q : Nat} (hm : m < 16) (hq : q < 64) : ∃ v, lpv (f_X12_code_131 (nI n) b4 (nI m) (nI q)) (oB x 32 (vp_updL (x.2.2.2 32) m (bit1 q)), 0) = some v ∧ v = oB x 32 (vp_updL (x.2.2.2 32) m (bw R q)) := by
  have hn64 : n ≤ 64 := by have := ldn_le hR hN; rw [hE.2.2.2.1]; omega
  refine ⟨_, lpv_for (f := f_X12_code_131 (nI n) b4 (nI m) (nI q)) (fun i => (oB x 32 (vp_updL (x.2.2.2 32) m (bit1 q ||| orT (fun k => if tb (R (t k)) q = true then bit1 (t k) else 0) i)), nI i)) n (fun i hi => ?_) (r := oB x 32 (vp_updL (x.2.2.2 32) m (bit1 q ||| orT (fun k => if tb (R (t k)) q = true then bit1 (t k) else 0) n))) ?_ 0 (Nat.zero_le _) |> (fun z => by rw [show bit1 q ||| orT (fun k => if tb (R (t k)) q = true then bit1 (t k) else 0) 0 = bit1 q from or0 _] at z; exact z), ?_⟩
  · obtain ⟨g1, g2, g3⟩ := hE.1 i hi
    unfold f_X12_code_131
    dsimp only
    rw [if_neg (nI_ge hi (by omega)), if_pos (inb_t hm (by omega)), if_pos (inb_t (by omega) (by omega)), nI_clamp (by omega), nI_clamp (by omega), oB_ne _ (by decide), g3, has_12 hq, ob_s, oB_self, oB_A, g2, bit_12 (hR.lt64 g1), ob_s]
    simp only [bnd, nI_1, orT]
    have hu : vp_updL (x.2.2.2 32) m (bit1 q ||| orT (fun k => if tb (R (t k)) q = true then bit1 (t k) else 0) i) m = bit1 q ||| orT (fun k => if tb (R (t k)) q = true then bit1 (t k) else 0) i := if_pos rfl
    have huu : ∀ a b : Int64, vp_updL (vp_updL (x.2.2.2 32) m a) m b = vp_updL (x.2.2.2 32) m b := fun a b => funext fun k => by
      unfold vp_updL
      by_cases c : k = m
      · rw [if_pos c, if_pos c]
      · rw [if_neg c, if_neg c, if_neg c]
    rw [hu]
    cases hb : tb (R (t i)) q with
    | true => rw [if_neg b2t, if_pos rfl, orAs, huu, oB_same]
    | false => rw [if_pos b2f, if_neg (by decide), orAs, huu, oB_same]
  · unfold f_X12_code_131
    dsimp only
    rw [if_pos (nI_le (Nat.le_refl _) (by omega))]
  · congr 2
    unfold bw
    congr 1
    apply tb_ext
    intro i _
    rw [Bool.eq_iff_iff, tb_orT, tb_orT]
    constructor
    · intro ⟨k, hk, e⟩
      exact ⟨t k, hR.lt64 (hE.1 k hk).1, e⟩
    · intro ⟨c, hc, e⟩
      by_cases hb : tb (R c) q = true
      · obtain ⟨k, hk, e2⟩ := hE.2.1 c (fun z => by rw [z, tb_0] at hb; cases hb)
        exact ⟨k, hk, by rw [e2]; exact e⟩
      · rw [if_neg hb, tb_0] at e
        cases e
theorem EQ.cong {x y : OS} {R : Nat → Int64} {n : Nat} {t : Nat → Nat} (h : EQ x R n t) (h1 : y.2.2.1 33 = x.2.2.1 33) (h2 : y.2.2.2 31 = x.2.2.2 31) : EQ y R n t := ⟨fun k hk => by rw [h1, h2]; exact h.1 k hk, h.2⟩
theorem words_12 {x : OS} {R : Nat → Int64} {n : Nat} {t : Nat → Nat} {b4 : Int64} (hR : RI w.1 R) (hE : EQ x R n t) (hx0 : RWo x w.1 w.2) (h4 : ∀ c, tb b4 c = decide (R c ≠ 0)) (hd : (bsF R w.1).length ≤ 16) : ∃ v, lpv (f_X12_code_94 (nI n) b4) (x, 0, 0) = some (v, nI (bsF R w.1).length) ∧ Kp x v ∧ ∀ i, i < (bsF R w.1).length → v.2.2.2 32 i = wl (bsF R w.1) i := by
  have hN := hx0.2.2.1
  have key := lpv_inv (f := f_X12_code_94 (nI n) b4) (fun q z => z.2.2 = nI q ∧ z.2.1 = nI (bsF R q).length ∧ Kp x z.1 ∧ EQ z.1 R n t ∧ ∀ i, i < (bsF R q).length → z.1.2.2.2 32 i = wl (bsF R q) i) w.1 (fun r => r.2 = nI (bsF R w.1).length ∧ Kp x r.1 ∧ ∀ i, i < (bsF R w.1).length → r.1.2.2.2 32 i = wl (bsF R w.1) i) (fun q z hq hI => Or.inl ?_) (fun z hI => ?_) 0 (x, 0, 0) (Nat.zero_le _) ⟨rfl, rfl, Keep.rf, hE, fun i hi => by simp [bsF] at hi⟩
  · obtain ⟨⟨v, m⟩, e, h1, h2, h3⟩ := key
    have h1 : m = _ := h1
    subst h1
    exact ⟨v, e, h2, h3⟩
  · obtain ⟨y, b, c⟩ := z
    obtain ⟨e1, e2, e3, e4, e5⟩ := hI
    dsimp only at e1 e2 e3 e4 e5
    subst e1 e2
    have hm := bsF_mono R (Nat.le_of_lt hq)
    have hm2 := bsF_mono R (show q + 1 ≤ w.1 from hq)
    have hst : f_X12_code_94 (nI n) b4 (y, nI (bsF R q).length, nI q) = if R q = 0 then if inb (nI (bsF R q).length) 16 = true then (lpv (f_X12_code_131 (nI n) b4 (nI (bsF R q).length) (nI q)) (oB y 32 (vp_updL (y.2.2.2 32) (bsF R q).length (bit1 q)), 0)).bind (fun x57 => some (.inl (x57, nI ((bsF R q).length + 1), nI (q + 1)))) else none else some (.inl (y, nI (bsF R q).length, nI (q + 1))) := by
      unfold f_X12_code_94
      dsimp only
      rw [(hx0.kp e3).1, if_neg (nI_ge hq (by omega)), has_12 (show q < 64 by omega), ob_s, h4 q]
      by_cases z : R q = 0
      · rw [if_pos z, decide_eq_false (fun h => h z), if_pos b2f, bit_12 (by omega), ob_s, nI_clamp (by omega)]
        simp only [bnd, nI_1]
      · rw [if_neg z, decide_eq_true z, if_neg b2t]
        simp only [bnd, nI_1]
    by_cases hz : R q = 0
    · have e : bsF R (q + 1) = bsF R q ++ [bw R q] := by simp only [bsF, if_pos hz]
      rw [e, List.length_append, List.length_singleton] at hm2
      obtain ⟨v, f1, f2⟩ := word_12 hR hN e4 b4 (m := (bsF R q).length) (by omega) (show q < 64 by omega)
      subst f2
      refine ⟨(oB y 32 (vp_updL (y.2.2.2 32) (bsF R q).length (bw R q)), nI ((bsF R q).length + 1), nI (q + 1)), ?_, rfl, ?_, Keep.oB e3 rfl, e4.cong rfl (by rw [oB_ne _ (by decide)]), fun i hi => ?_⟩
      · rw [hst, if_pos hz, if_pos (inb_t (by omega) (by omega)), f1, ob_s]
      · dsimp only
        rw [e, List.length_append, List.length_singleton]
      · dsimp only
        rw [oB_self]
        unfold vp_updL
        rw [e, List.length_append, List.length_singleton] at hi
        by_cases q2 : i = (bsF R q).length
        · rw [if_pos q2, e, q2, wl_last]
        · rw [if_neg q2, e, wl_app (by omega)]
          exact e5 i (by omega)
    · have e : bsF R (q + 1) = bsF R q := by simp only [bsF, if_neg hz]
      refine ⟨(y, nI (bsF R q).length, nI (q + 1)), by rw [hst, if_neg hz], rfl, by dsimp only; rw [e], e3, e4, by dsimp only; rw [e]; exact e5⟩
  · obtain ⟨y, b, c⟩ := z
    obtain ⟨e1, e2, e3, e4, e5⟩ := hI
    dsimp only at e1 e2 e3 e4 e5
    subst e1 e2
    refine ⟨(y, nI (bsF R w.1).length), ?_, rfl, e3, e5⟩
    unfold f_X12_code_94
    dsimp only
    rw [(hx0.kp e3).1, if_pos (nI_le (Nat.le_refl _) (by omega))]
theorem least_12 {x : OS} {B : Nat → Int64} {d : Nat} (hd : d ≤ 16) (hB : ∀ i, i < d → x.2.2.2 32 i = B i) : lpv (f_X12_code_197 x (nI d)) (-1, 1) = some (mnF (fun t => pcn (wvG B d t.testBit)) (2 ^ d - 1)) := by
  have hp : 2 ^ d ≤ 65536 := Nat.pow_le_pow_right (n := 2) (by decide) hd
  have hp1 : 1 ≤ 2 ^ d := Nat.one_le_two_pow
  refine lpv_for (f := f_X12_code_197 x (nI d)) (fun t => (mnF (fun t => pcn (wvG B d t.testBit)) t, nI (t + 1))) (2 ^ d - 1) (r := mnF (fun t => pcn (wvG B d t.testBit)) (2 ^ d - 1)) (fun t ht => ?_) ?_ 0 (Nat.zero_le _)
  · have hin : ∀ b7, lpv (f_X12_code_212 x (nI d) b7 (nI (t + 1))) (0, 0) = some (wvG B d (t + 1).testBit) := fun b7 => by
      refine lpv_for (f := f_X12_code_212 x (nI d) b7 (nI (t + 1))) (fun i => (wvG B i (t + 1).testBit, nI i)) d (fun i hi => ?_) ?_ 0 (Nat.zero_le _)
      · unfold f_X12_code_212
        dsimp only
        rw [if_neg (nI_ge hi (by omega)), bit_sh (by omega) (by omega), if_pos (inb_t (by omega) (by omega)), nI_clamp (by omega), hB i hi]
        simp only [bnd, nI_1, wvG, xorT]
        cases hb : (t + 1).testBit i with
        | true => rw [if_pos (show b2i true = 1 from rfl), if_pos rfl]
        | false => rw [if_neg (show ¬ b2i false = 1 by decide), if_neg (by decide)]
      · unfold f_X12_code_212
        dsimp only
        rw [if_pos (nI_le (Nat.le_refl _) (by omega))]
    unfold f_X12_code_197
    dsimp only
    rw [shl1 d (by omega), if_neg (nI_ge (show t + 1 < 2 ^ d by omega) (by omega)), hin, ob_s]
    dsimp only [bnd]
    rw [ones_12, ob_s, nI_1]
    simp only [mnF]
    by_cases q : mnF (fun t => pcn (wvG B d t.testBit)) t = -1
    · rw [if_pos q, if_pos q]
    · rw [if_neg q, if_neg q, ob_s, min_J9, ob_s]
  · unfold f_X12_code_197
    dsimp only
    rw [shl1 d (by omega), if_pos (nI_le (show 2 ^ d ≤ 2 ^ d - 1 + 1 by omega) (by omega))]
theorem q_code (hW : WFw w) (h : RWo st w.1 w.2) (a0 : Int32) : ∃ k : Nat ⊕ Int32, (∀ stt stn scr, CW stn w → ∃ x, f_X11_code stt stn scr a0 = some (match k with | .inl j => .inl j | .inr v => .inr (v, x))) ∧ ∃ v x, f_X12_code st a0 = some (v, x) ∧ Kt st x ∧ QA 1 k v x := by
  have hw3 := within_12 a0 (n := 2) (by decide)
  rw [show (((nI 2) - 1 : Int32).toInt64) = 1 by decide +kernel] at hw3
  rcases out_or (i := a0) (n := 2) with h1 | ⟨j, rfl, hj⟩
  · have hn0 : ¬ a0 = 0 := fun z => by subst z; exact absurd h1 (by decide)
    have hn1 : ¬ a0 = 1 := fun z => by subst z; exact absurd h1 (by decide)
    refine ⟨.inl 1, fun stt stn scr hw => ⟨scr, ?_⟩, 0, oI st 2 1, ?_, Kt.thr 1, Or.inl ⟨rfl, th_v⟩⟩
    · unfold f_X11_code
      rw [if_neg hn0, if_neg hn1]
    · unfold f_X12_code
      rw [hw3, if_pos h1, ob_s, if_pos rfl]
      dsimp only [bnd]
      rw [th_v, if_neg (by decide)]
  · have h1 := in_not (n := 2) (by decide) hj
    have hR := rowsF_RI hW h.2.2.1 w.2.length (Nat.le_refl _)
    obtain ⟨x, t, e1, e2, e3⟩ := equate_12 (st := oI st 2 0) hW (h.th 0)
    have hx := (h.th 0).kp e2
    have hd := dim_12 hW hx
    have hlen := dim_len hW h.2.2.1
    have hle : dimN w ≤ 64 := by have := h.2.2.1; unfold dimN; omega
    obtain ⟨b4, f1, f2⟩ := ctold_12 hR h.2.2.1 e3
    refine ⟨.inr (codeW w (nI j)), fun stt stn scr hw => ?_, ?_⟩
    · rcases (by omega : j = 0 ∨ j = 1) with rfl | rfl
      · obtain ⟨u, g1, g2⟩ := dim_4 hw hW scr
        refine ⟨u, ?_⟩
        unfold f_X11_code
        rw [if_pos (show nI 0 = 0 from rfl), g1, ob_s]
        rfl
      · obtain ⟨u, g1⟩ := leastWord_4 hw hW scr
        refine ⟨u, ?_⟩
        unfold f_X11_code
        rw [if_neg (show ¬ nI 1 = 0 by decide), if_pos (show nI 1 = 1 from rfl), if_neg (show ¬ nI 1 = 0 by decide), g1, ob_s]
        rfl
    · have hst : f_X12_code st (nI j) = if nI j = 0 then some (nI (dimN w), x) else if nI (dimN w) ≤ 16 then (lpv (f_X12_code_94 (nI (ldn (rowsF w.2 w.2.length))) b4) (x, 0, 0)).bind (fun x66 => match x66 with | (t68, v69) => (lpv (f_X12_code_197 t68 v69) (((-1), 1))).bind (fun x99 => some ((x99, t68)))) else some (-2, x) := by
        unfold f_X12_code
        rw [hw3, if_neg h1, ob_s, if_neg ne10]
        dsimp only [bnd]
        rw [th_v, if_pos (by decide), e1, ob_s]
        dsimp only
        rw [hd, f1, ob_s]
      rw [hst]
      unfold codeW
      by_cases z : nI j = 0
      · rw [if_pos z, if_pos z]
        exact ⟨_, _, rfl, Kt.p e2, Or.inr ⟨rfl, e2.v⟩⟩
      · rw [if_neg z, if_neg z]
        by_cases c : 16 < dimN w
        · rw [if_pos c, if_neg (show ¬ nI (dimN w) ≤ (16 : Int32) from nI_ge (a := 16) c (by omega))]
          exact ⟨_, _, rfl, Kt.p e2, Or.inr ⟨rfl, e2.v⟩⟩
        · rw [if_neg c, if_pos (show nI (dimN w) ≤ (16 : Int32) from nI_le (b := 16) (by omega) (by decide))]
          obtain ⟨v, g1, g2, g3⟩ := words_12 hR e3 hx f2 (by omega)
          rw [g1, ob_s]
          dsimp only
          rw [hlen, least_12 (by omega) (fun i hi => g3 i (by omega)), ob_s]
          have k2 : Kp (oI st 2 0) v := Keep.tr e2 g2
          exact ⟨_, _, rfl, Kt.p k2, Or.inr ⟨rfl, k2.v⟩⟩
end CODE
