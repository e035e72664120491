/-! turnings: what is undecided, one told apart, what is carried -/
def undT (l : List Int64) : Nat → Option Nat × Nat
  | 0 => (none, 17)
  | k + 1 => if 2 ≤ pcn (wl l k) ∧ pcn (wl l k) < (undT l k).2 then (some k, pcn (wl l k)) else undT l k
def und (l : List Int64) : Option Nat := (undT l l.length).1
def oN : Option Nat → Int32
  | none => -1
  | some k => nI k
theorem undT_lt (l : List Int64) : ∀ n, (undT l n).2 ≤ 17 := by
  intro n
  induction n with
  | zero => exact Nat.le_refl _
  | succ n ih =>
    simp only [undT]
    split
    · dsimp only; omega
    · exact ih
theorem undT_none {l : List Int64} : ∀ {n}, (∀ k, k < n → pcn (wl l k) ≤ 16) → (undT l n).1 = none → (undT l n).2 = 17 ∧ ∀ k, k < n → pcn (wl l k) < 2 := by
  intro n
  induction n with
  | zero => intro _ _; exact ⟨rfl, fun k hk => by omega⟩
  | succ n ih =>
    intro h16 h
    simp only [undT] at h ⊢
    by_cases c : 2 ≤ pcn (wl l n) ∧ pcn (wl l n) < (undT l n).2
    · rw [if_pos c] at h; cases h
    · rw [if_neg c] at h ⊢
      obtain ⟨h1, h2⟩ := ih (fun k hk => h16 k (by omega)) h
      refine ⟨h1, fun k hk => ?_⟩
      rcases Nat.lt_or_ge k n with q | q
      · exact h2 k q
      · have : k = n := by omega
        subst this
        have := h16 k (by omega)
        omega
theorem undT_some {l : List Int64} {k : Nat} : ∀ {n}, (undT l n).1 = some k → k < n ∧ 2 ≤ pcn (wl l k) := by
  intro n
  induction n with
  | zero => intro h; cases h
  | succ n ih =>
    intro h
    simp only [undT] at h
    by_cases c : 2 ≤ pcn (wl l n) ∧ pcn (wl l n) < (undT l n).2
    · rw [if_pos c] at h
      have : n = k := Option.some.inj h
      subst this
      exact ⟨by omega, c.1⟩
    · rw [if_neg c] at h
      obtain ⟨h1, h2⟩ := ih h
      exact ⟨by omega, h2⟩
theorem KP.le16 {N : Nat} {l m : List Int64} (h : KP N l m) (hN : N ≤ 16) {k : Nat} (hk : k < l.length) : pcn (wl l k) ≤ 16 := by
  rw [pcn_N (N := N) (by omega) (fun i z => h.1.1 k i hk z)]
  have := cnt_le (tb (wl l k)) N
  omega
theorem und_none {N : Nat} {l m : List Int64} (h : KP N l m) (hN : N ≤ 16) (hu : und l = none) {k : Nat} (hk : k < l.length) : pcn (wl l k) = 1 := by
  have h1 := (undT_none (fun k hk => h.le16 hN hk) hu).2 k hk
  have h2 := pcn_pos' (h.2.2.2.1 k hk)
  omega
theorem und_some {l : List Int64} {k : Nat} (hu : und l = some k) : k < l.length ∧ 2 ≤ pcn (wl l k) := undT_some hu
theorem pcn_bit1 {k : Nat} (hk : k < 64) : pcn (bit1 k) = 1 := by
  have h1 : bit1 k ≠ 0 := bit1_ne hk
  have h2 := pcn_clr h1
  have h3 : bit1 k &&& (bit1 k - 1) = 0 := tb_ext (fun i _ => by
    rw [tb_clr h1, tb_0, tb_bit1 hk]
    have : low (bit1 k) = k := low_eq (by rw [tb_bit1 hk]; exact decide_eq_true rfl) (fun j hj => by rw [tb_bit1 hk]; exact decide_eq_false (by omega))
    rw [this]
    by_cases c : i = k <;> simp [c])
  rw [h3, pcn_zero] at h2
  omega
/-- a set of one -/
theorem one_el {x : Int64} (h : pcn x = 1) {i j : Nat} (hi : tb x i = true) (hj : tb x j = true) : i = j := by
  have h1 := tb_lt hi
  have h2 := pcn_dif (x := x) (p := bit1 i) (fun o ho => by
    rw [tb_bit1 h1] at ho
    rw [of_decide_eq_true ho]; exact hi)
  rw [pcn_bit1 h1, h] at h2
  have h3 : pcn (x &&& (bit1 i ^^^ (-1))) = 0 := by omega
  rw [pcn_0] at h3
  have h4 := tb_dif x (bit1 i) j
  rw [h3, tb_0, hj, tb_bit1 h1] at h4
  have : decide (j = i) = true := by simpa using h4
  exact (of_decide_eq_true this).symm
section T8U
variable {st : OS} {D N : Nat} {l m : List Int64}
theorem und_8 (hD : D < 17) (h : RW8 st D l m) (hl : l.length ≤ 64) : f_X8_undecided st (nI D) = some (oN (und l)) := by
  have hix : ∀ k, nI D * 64 + nI k = nI (64 * D + k) := ix64 D
  have key := lpv_for (f := f_X8_undecided_8 st (nI D)) (fun k => (oN (undT l k).1, nI (undT l k).2, nI k)) l.length (r := oN (und l)) (fun k hk => ?_) ?_ 0 (Nat.zero_le _)
  · unfold f_X8_undecided
    rw [show ((-1 : Int32), (17 : Int32), (0 : Int32)) = (oN (undT l 0).1, nI (undT l 0).2, nI 0) from rfl, key, ob_s]
  · have hp := pcn_le (wl l k)
    have hu := undT_lt l k
    unfold f_X8_undecided_8
    dsimp only
    rw [if_pos (inb_t (by omega) (by omega)), nI_clamp (by omega), h.1, if_neg (nI_ge hk (by omega)), if_neg (show ¬ (64 : Int32) ≤ nI k from nI_ge (b := 64) (by omega) (by decide)), hix, if_pos (inb_t (by omega) (by omega)), nI_clamp (by omega), h.2.2.1 k hk, bitCount_13, ob_s]
    dsimp only [bnd]
    rw [nI_1]
    simp only [undT]
    by_cases c1 : pcn (wl l k) < 2
    · rw [if_pos ((le1 _).mpr c1), if_neg (by omega)]
    · rw [if_neg (fun z => c1 ((le1 _).mp z))]
      by_cases c2 : pcn (wl l k) < (undT l k).2
      · rw [if_neg (nI_ge c2 (by omega)), if_pos ⟨by omega, c2⟩]
        rfl
      · rw [if_pos (nI_le (by omega) (by omega)), if_neg (by omega)]
  · unfold f_X8_undecided_8
    dsimp only
    rw [if_pos (inb_t (by omega) (by omega)), nI_clamp (by omega), h.1, if_pos (nI_le (Nat.le_refl _) (by omega))]
    rfl
theorem okc_t {a b n0 n1 : Nat} (h0 : a + 64 ≤ n0) (h1 : b + 64 ≤ n1) (h2 : n0 < 2 ^ 31) (h3 : n1 < 2 ^ 31) : okc (nI a) (nI b) 64 n0 n1 = true := by
  unfold okc
  rw [show (64 : Int32) = nI 64 from rfl]
  exact decide_eq_true ⟨nI_pos (by omega), nI_pos (by omega), nI_pos (by decide), by rw [nI_clamp (by omega), nI_clamp (by decide)]; exact h0, by rw [nI_clamp (by omega), nI_clamp (by decide)]; exact h1⟩
/-- one told apart on the next row -/
def TA8 (D t : Nat) (st x : OS) : Prop := x.1 = st.1 ∧ (∀ k, k ≠ 6 → k ≠ 14 → x.2.2.1 k = st.2.2.1 k) ∧ (∀ k, k ≠ 7 → k ≠ 8 → x.2.2.2 k = st.2.2.2 k) ∧ (∀ d, d ≠ D + 1 → x.2.2.1 6 d = st.2.2.1 6 d) ∧ (∀ d, d ≠ D → x.2.2.1 14 d = st.2.2.1 14 d) ∧ x.2.2.1 14 D = nI t ∧ ∀ z, (z < 64 * (D + 1) ∨ 64 * (D + 1) + 64 ≤ z) → x.2.2.2 7 z = st.2.2.2 7 z ∧ x.2.2.2 8 z = st.2.2.2 8 z
theorem tellApart_8 (hD : D + 1 < 16) (h : RW8 st D l m) (hN : N ≤ 64) (g : KP N l m) {k p t : Nat} (hk : k < l.length) (h2 : 2 ≤ pcn (wl l k)) (hp : p < 64) (ht : t < 64) (hl : l.length < 64) : ∃ x, f_X8_tellApart st (nI D) (nI k) (nI p) (nI t) = some x ∧ RW8 x (D + 1) (spl l k (bit1 p)) (spl m k (bit1 t)) ∧ TA8 D t st x := by
  have e1 : nI D * 64 = nI (64 * D) := by rw [i64, pk_mul, Nat.mul_comm]
  have e2 : nI (D + 1) * 64 = nI (64 * (D + 1)) := by rw [i64, pk_mul, Nat.mul_comm]
  have hw : bit1 p ≠ wl l k := fun z => by rw [← z, pcn_bit1 hp] at h2; omega
  obtain ⟨y, hy⟩ : ∃ y, y = oA (oB (oB st 7 (va_cpy (st.2.2.2 7) (st.2.2.2 7) (64 * D) (64 * (D + 1)) 64)) 8 (va_cpy (st.2.2.2 8) (st.2.2.2 8) (64 * D) (64 * (D + 1)) 64)) 6 (upd (st.2.2.1 6) (D + 1) (st.2.2.1 6 D)) := ⟨_, rfl⟩
  have y6 : y.2.2.1 6 = upd (st.2.2.1 6) (D + 1) (st.2.2.1 6 D) := by rw [hy, oA_self]
  have y7 : y.2.2.2 7 = va_cpy (st.2.2.2 7) (st.2.2.2 7) (64 * D) (64 * (D + 1)) 64 := by rw [hy, oA_B, oB_ne (j := 7) _ (by decide), oB_self]
  have y8 : y.2.2.2 8 = va_cpy (st.2.2.2 8) (st.2.2.2 8) (64 * D) (64 * (D + 1)) 64 := by rw [hy, oA_B, oB_self]
  have hm := g.2.2.1
  have hR : RW8 y (D + 1) l m := by
    refine ⟨by rw [y6, upd_s, h.1], hm, fun j hj => ?_, fun j hj => ?_⟩
    · rw [y7]
      unfold va_cpy
      rw [if_pos (by omega), show 64 * D + (64 * (D + 1) + j - 64 * (D + 1)) = 64 * D + j by omega]
      exact h.2.2.1 j hj
    · rw [y8]
      unfold va_cpy
      rw [if_pos (by omega), show 64 * D + (64 * (D + 1) + j - 64 * (D + 1)) = 64 * D + j by omega]
      exact h.2.2.2 j hj
  obtain ⟨x, a1, a2, a3⟩ := split_8 (D := D + 1) (by omega) hR hl hk (q := bit1 t) hw
  refine ⟨oA x 14 (upd (x.2.2.1 14) D (nI t)), ?_, ⟨?_, a2.2.1, a2.2.2.1, a2.2.2.2⟩, a3.1.trans (by rw [hy]; rfl), fun j h6 h14 => ?_, fun j h7 h8 => ?_, fun d hd => ?_, fun d hd => ?_, ?_, fun z hz => ?_⟩
  · unfold f_X8_tellApart
    rw [if_neg (nI_pos (by omega)), nI_1, if_pos (show nI (D + 1) < (16 : Int32) from nI_lt (b := 16) hD (by decide))]
    dsimp only [bnd]
    rw [e1, e2, if_pos (okc_t (by omega) (by omega) (by decide) (by decide)), if_pos (okc_t (by omega) (by omega) (by decide) (by decide)), if_pos (inb_t (by omega) (by omega)), if_pos (inb_t (by omega) (by omega)), nI_clamp (by omega), nI_clamp (by omega), nI_clamp (by omega), nI_clamp (by omega), show (64 : Int32).toNatClampNeg = 64 from rfl, oB_ne (j := 8) _ (by decide), oB_A, oB_A, ← hy, sh1 hp, sh1 ht, a1, ob_s, if_pos (inb_t (by omega) (by omega))]
  · rw [oA_ne (j := 6) _ (by decide)]; exact a2.1
  · rw [oA_ne _ h14, a3.2.1 j h6, hy, oA_ne _ h6]; rfl
  · rw [oA_B, a3.2.2.1 j h7 h8, hy, oA_B, oB_ne _ h8, oB_ne _ h7]
  · rw [oA_ne (j := 6) _ (by decide), a3.2.2.2.1 d hd, y6, upd_n hd]
  · rw [oA_self, upd_n hd, a3.2.1 14 (by decide), hy, oA_ne (j := 14) _ (by decide)]; rfl
  · rw [oA_self]; exact upd_s
  · rw [oA_B, (a3.2.2.2.2 z hz).1, (a3.2.2.2.2 z hz).2, y7, y8]
    unfold va_cpy
    rw [if_neg (by omega), if_neg (by omega)]
    exact ⟨rfl, rfl⟩
theorem carry_8 (hD : D < 17) (h : RW8 st D l m) (hN : N ≤ 16) (g : KP N l m) : ∃ f, f_X8_carryKinds st (nI D) = some (oA st 11 f) ∧ ∀ k, k < l.length → f (low (wl l k)) = nI (low (wl m k)) := by
  have hl := g.len
  have key := lpv_inv (f := f_X8_carryKinds_2 (nI D)) (fun k z => z.2 = nI k ∧ ∃ f, z.1 = oA st 11 f ∧ ∀ j, j < k → f (low (wl l j)) = nI (low (wl m j))) l.length (fun x => ∃ f, x = oA st 11 f ∧ ∀ j, j < l.length → f (low (wl l j)) = nI (low (wl m j))) (fun k z hk hI => Or.inl ?_) (fun z hI => ?_) 0 (st, 0) (Nat.zero_le _) ⟨rfl, st.2.2.1 11, by
    unfold oA
    refine Prod.ext rfl (Prod.ext rfl (Prod.ext (funext fun z => ?_) rfl))
    by_cases c : z = 11
    · subst c; simp [va_up]
    · simp [va_up, c], fun j hj => by omega⟩
  · obtain ⟨x, e1, f, e2, e3⟩ := key
    exact ⟨f, by unfold f_X8_carryKinds; rw [e1, ob_s, e2], e3⟩
  · obtain ⟨x, b⟩ := z
    obtain ⟨e1, f, e2, e3⟩ := hI
    dsimp only at e1 e2
    subst e1 e2
    have hm := g.2.2.1
    have l1 := (low_tb (g.2.2.2.1 k hk)).1
    have l2 := (low_tb (g.ne k (by omega))).1
    have b1 := g.1.1 k _ hk l1
    have b2 := g.2.1.1 k _ (by omega) l2
    refine ⟨(oA st 11 (upd f (low (wl l k)) (nI (low (wl m k)))), nI (k + 1)), ?_, rfl, _, rfl, fun j hj => ?_⟩
    · unfold f_X8_carryKinds_2
      dsimp only
      rw [oA_ne (j := 6) _ (by decide), oA_B, if_pos (inb_t (by omega) (by omega)), nI_clamp (by omega), h.1, if_neg (nI_ge hk (by omega)), if_neg (show ¬ (64 : Int32) ≤ nI k from nI_ge (b := 64) (by omega) (by decide)), ix64, if_pos (inb_t (by omega) (by omega)), nI_clamp (by omega), h.2.2.1 k hk, h.2.2.2 k (by omega), lowest_10, ob_s, if_neg (g.2.2.2.1 k hk), if_neg (nI_pos (by omega)), if_neg (show ¬ (16 : Int32) ≤ nI (low (wl l k)) from nI_ge (b := 16) (by omega) (by decide)), lowest_10, ob_s, if_neg (g.ne k (by omega)), if_pos (inb_t (by omega) (by omega)), nI_clamp (by omega)]
      dsimp only [bnd]
      rw [oA_self, oA_same, nI_1]
    · by_cases c : j = k
      · rw [c]; exact upd_s
      · have hne : low (wl l j) ≠ low (wl l k) := fun z => by
          have l3 := (low_tb (g.2.2.2.1 j (by omega))).1
          rw [z] at l3
          exact c (g.1.2.2 j k _ (by omega) hk l3 l1)
        rw [upd_n hne]
        exact e3 j (by omega)
  · obtain ⟨x, b⟩ := z
    obtain ⟨e1, f, e2, e3⟩ := hI
    dsimp only at e1 e2
    subst e1 e2
    refine ⟨oA st 11 f, ?_, f, rfl, e3⟩
    unfold f_X8_carryKinds_2
    dsimp only
    rw [oA_ne (j := 6) _ (by decide), if_pos (inb_t (by omega) (by omega)), nI_clamp (by omega), h.1, if_pos (nI_le (Nat.le_refl _) (by omega))]
theorem worth_8 (hD : D < 16) {p t : Nat} (hp : p < 64) (ht : t < 64) (open_ : Int64) : ∃ v, f_X8_isWorthTrying st (nI D) (nI p) (nI t) open_ = some v ∧ (v = 0 ∨ v = 1) ∧ (pcn (st.2.2.2 13 D) ≤ pcn (open_ &&& (fst64 (t + 1) ^^^ (-1))) + 1 → (∀ e, e < D → tb (st.2.2.2 13 e) p = true → st.2.2.1 14 e ≤ nI t) → v = 1) := by
  have key := lpv_inv (f := f_X8_isWorthTrying_39 st (nI D) (nI p) (nI t)) (fun e z => z = nI e ∧ ∀ j, j < e → tb (st.2.2.2 13 j) p = true → st.2.2.1 14 j ≤ nI t) D (fun r => r = 1 ∨ (r = 0 ∧ ¬ ∀ e, e < D → tb (st.2.2.2 13 e) p = true → st.2.2.1 14 e ≤ nI t)) (fun e z he hI => ?_) (fun z hI => ?_) 0 0 (Nat.zero_le _) ⟨rfl, fun j hj => by omega⟩
  · obtain ⟨r, e1, e2⟩ := key
    have p1 := pcn_le (st.2.2.2 13 D)
    have p2 := pcn_le (open_ &&& (fst64 (t + 1) ^^^ (-1)))
    unfold f_X8_isWorthTrying
    rw [nI_1, first_10 (by omega), ob_s]
    dsimp only [bnd]
    rw [bitCount_13, ob_s, if_pos (inb_t (by omega) (by omega)), nI_clamp (by omega), bitCount_13, ob_s, e1, ob_s]
    have hcond : nI (pcn (st.2.2.2 13 D)) - 1 ≤ nI (pcn (open_ &&& (fst64 (t + 1) ^^^ (-1)))) ↔ pcn (st.2.2.2 13 D) ≤ pcn (open_ &&& (fst64 (t + 1) ^^^ (-1))) + 1 := by
      rcases Nat.eq_zero_or_pos (pcn (st.2.2.2 13 D)) with q | q
      · rw [q]
        refine ⟨fun _ => by omega, fun _ => ?_⟩
        rw [show nI 0 - 1 = (-1 : Int32) from rfl]
        exact Int32.le_trans (by decide) (nI_pos' (by omega))
      · rw [show nI (pcn (st.2.2.2 13 D)) - 1 = nI (pcn (st.2.2.2 13 D) - 1) from pk_sub q]
        refine ⟨fun z => ?_, fun z => nI_le (by omega) (by omega)⟩
        rcases Nat.lt_or_ge (pcn (open_ &&& (fst64 (t + 1) ^^^ (-1)))) (pcn (st.2.2.2 13 D) - 1) with r | r
        · exact absurd z (nI_ge r (by omega))
        · omega
    by_cases c : pcn (st.2.2.2 13 D) ≤ pcn (open_ &&& (fst64 (t + 1) ^^^ (-1))) + 1
    · rw [if_pos (hcond.mpr c)]
      rcases e2 with e2 | ⟨e2, e3⟩
      · rw [e2, if_neg (by decide)]
        exact ⟨1, rfl, Or.inr rfl, fun _ _ => rfl⟩
      · rw [e2, if_pos rfl]
        exact ⟨0, rfl, Or.inl rfl, fun _ z => absurd z e3⟩
    · rw [if_neg (fun z => c (hcond.mp z))]
      exact ⟨0, rfl, Or.inl rfl, fun z => absurd z c⟩
  · obtain ⟨e1, e2⟩ := hI
    subst e1
    have hst : f_X8_isWorthTrying_39 st (nI D) (nI p) (nI t) (nI e) = if tb (st.2.2.2 13 e) p = true then (if st.2.2.1 14 e ≤ nI t then some (.inl (nI (e + 1))) else some (.inr 0)) else some (.inl (nI (e + 1))) := by
      unfold f_X8_isWorthTrying_39
      rw [if_neg (nI_ge he (by omega)), if_neg (show ¬ (16 : Int32) ≤ nI e from nI_ge (b := 16) (by omega) (by decide)), if_pos (inb_t (by omega) (by omega)), nI_clamp (by omega), has_10 hp, ob_s]
      dsimp only [bnd]
      rw [nI_1]
      cases hb : tb (st.2.2.2 13 e) p with
      | true => rw [if_neg b2t, if_pos rfl]
      | false => rw [if_pos b2f, if_neg (by decide)]
    rw [hst]
    by_cases hb : tb (st.2.2.2 13 e) p = true
    · rw [if_pos hb]
      by_cases hc : st.2.2.1 14 e ≤ nI t
      · rw [if_pos hc]
        exact Or.inl ⟨_, rfl, rfl, fun j hj hjb => by
          rcases Nat.lt_or_ge j e with q | q
          · exact e2 j q hjb
          · rw [show j = e by omega]; exact hc⟩
      · rw [if_neg hc]
        exact Or.inr ⟨_, rfl, Or.inr ⟨rfl, fun z => hc (z e he hb)⟩⟩
    · rw [if_neg hb]
      exact Or.inl ⟨_, rfl, rfl, fun j hj hjb => by
        rcases Nat.lt_or_ge j e with q | q
        · exact e2 j q hjb
        · rw [show j = e by omega] at hjb; exact absurd hjb hb⟩
  · obtain ⟨e1, e2⟩ := hI
    subst e1
    refine ⟨1, ?_, Or.inl rfl⟩
    unfold f_X8_isWorthTrying_39
    rw [if_pos (nI_le (Nat.le_refl _) (by omega))]
/-- the points of a class -/
def clS (c : Nat → Int32) (n p : Nat) : Int64 := orT (fun q => if c q = c p then bit1 q else 0) n
theorem tb_clS {c : Nat → Int32} {n p i : Nat} (hn : n ≤ 64) : tb (clS c n p) i = true ↔ i < n ∧ c i = c p := by
  unfold clS
  rw [tb_orT]
  constructor
  · rintro ⟨j, hj, h⟩
    by_cases q : c j = c p
    · rw [if_pos q, tb_bit1 (by omega)] at h
      rw [of_decide_eq_true h]
      exact ⟨hj, q⟩
    · rw [if_neg q, tb_0] at h; cases h
  · intro ⟨h1, h2⟩
    exact ⟨i, h1, by rw [if_pos h2, tb_bit1 (by omega)]; exact decide_eq_true rfl⟩
theorem classOf_8 {n p : Nat} (h0 : st.1 0 = nI n) (hn : n ≤ 16) (hp : p < 16) : f_X8_classOf st (nI p) = some (clS (st.2.2.1 12) n p) := by
  have key := lpv_for (f := f_X8_classOf_17 st (nI p)) (fun q => (orT (fun q => if st.2.2.1 12 q = st.2.2.1 12 p then bit1 q else 0) q, nI q)) n (r := clS (st.2.2.1 12) n p) (fun q hq => ?_) ?_ 0 (Nat.zero_le _)
  · unfold f_X8_classOf
    rw [if_neg (nI_pos (by omega)), if_pos (show nI p < (16 : Int32) from nI_lt (b := 16) hp (by decide)), show ((0 : Int64), (0 : Int32)) = (orT (fun q => if st.2.2.1 12 q = st.2.2.1 12 p then bit1 q else 0) 0, nI 0) from rfl, key, ob_s]
  · unfold f_X8_classOf_17
    dsimp only
    rw [h0, if_neg (nI_ge hq (by omega)), if_neg (show ¬ (16 : Int32) ≤ nI q from nI_ge (b := 16) (by omega) (by decide)), if_pos (inb_t (by omega) (by omega)), if_pos (inb_t (by omega) (by omega)), nI_clamp (by omega), nI_clamp (by omega), sh1 (by omega)]
    dsimp only [bnd, orT]
    rw [nI_1]
    by_cases c : st.2.2.1 12 q = st.2.2.1 12 p
    · rw [if_pos c, if_pos c]
    · rw [if_neg c, if_neg c]
  · unfold f_X8_classOf_17
    dsimp only
    rw [h0, if_pos (nI_le (Nat.le_refl _) (by omega))]
    rfl
end T8U
