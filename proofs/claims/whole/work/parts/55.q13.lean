/-! questions: ways, the class's sets; far -/
theorem tb_neg (x : Int64) {i : Nat} (hi : i < 64) : tb (-x) i = !tb (x - 1) i := by
  have h : -x = ~~~(x - 1) := by
    rw [Int64.not_eq_neg_sub, Int64.neg_sub]
    rw [Int64.sub_eq_add_neg, Int64.sub_eq_add_neg, Int64.add_comm 1, Int64.add_assoc, Int64.add_right_neg, Int64.add_zero]
  rw [h]
  unfold tb
  rw [Int64.toBitVec_not, BitVec.getLsbD_not]
  simp [hi]
theorem low_bit {x : Int64} (h : x ≠ 0) : x &&& (-x) = bit1 (low x) := by
  obtain ⟨h1, h2, h3⟩ := low_tb h
  refine tb_ext (fun i hi => ?_)
  have h4 := tb_clr h i
  rw [tb_and] at h4
  rw [tb_and, tb_neg x hi, tb_bit1 h2]
  by_cases q : i = low x
  · rw [q] at h4 ⊢
    rw [h1] at h4 ⊢
    rw [decide_eq_true rfl]
    simpa using h4
  · rw [decide_eq_false q]
    cases hb : tb x i with
    | false => rfl
    | true =>
      rw [hb, decide_eq_true q] at h4
      simpa using h4
def ntaF (w : Wd) (x : Int64) : Int64 := orT (fun p => if tb x p = true then nearF w.2 p else 0) w.1
def seen (w : Wd) (x : Int64) : Nat → Int64
  | 0 => x
  | t + 1 => seen w x t ||| ntaF w (seen w x t)
theorem seen_up {w : Wd} {x : Int64} {i : Nat} : ∀ {t u : Nat}, t ≤ u → tb (seen w x t) i = true → tb (seen w x u) i = true := by
  intro t u
  induction u with
  | zero => intro h1 h2; rw [show t = 0 by omega] at h2; exact h2
  | succ u ih =>
    intro h1 h2
    rcases Nat.lt_or_ge u t with q | q
    · rw [show t = u + 1 by omega] at h2; exact h2
    · simp only [seen]
      rw [tb_or, ih q h2]
      rfl
theorem seen_fix {w : Wd} {x : Int64} {t : Nat} (h : seen w x (t + 1) = seen w x t) : ∀ k, seen w x (t + k) = seen w x t := by
  intro k
  induction k with
  | zero => rfl
  | succ k ih =>
    show seen w x (t + k) ||| ntaF w (seen w x (t + k)) = _
    rw [ih]
    exact h
theorem seen_grow {w : Wd} {x : Int64} (hx : x ≠ 0) : ∀ t, (∀ k, k < t → seen w x (k + 1) ≠ seen w x k) → t + 1 ≤ pcn (seen w x t) := by
  intro t
  induction t with
  | zero =>
    intro _
    obtain ⟨h1, _⟩ := low_tb hx
    exact pcn_pos h1
  | succ t ih =>
    intro h
    have h1 := ih (fun k hk => h k (by omega))
    have h2 : pcn (seen w x t) < pcn (seen w x (t + 1)) := pcn_strict (fun i hi => seen_up (by omega) hi) (fun z => h t (by omega) z.symm)
    omega
theorem seen_stop {w : Wd} {x : Int64} (hx : x ≠ 0) : ∃ T, T < 64 ∧ seen w x (T + 1) = seen w x T ∧ ∀ k, k < T → seen w x (k + 1) ≠ seen w x k := by
  false_or_by_contra
  rename_i hn
  have key : ∀ t, t ≤ 64 → ∀ k, k < t → seen w x (k + 1) ≠ seen w x k := by
    intro t
    induction t with
    | zero => intro _ k hk; omega
    | succ t ih =>
      intro ht k hk
      rcases Nat.lt_or_ge k t with q | q
      · exact ih (by omega) k q
      · rw [show k = t by omega]
        intro z
        exact hn ⟨t, by omega, z, fun k hk => ih (by omega) k hk⟩
  have := seen_grow hx 64 (key 64 (Nat.le_refl _))
  have := pcn_le (seen w x 64)
  omega
section WAYC
variable {st stn : OS} {w : Wd}
theorem nta_9 (hw : CW stn w) (x : Int64) : f_X9_nearToAny stn x = some (ntaF w x) := by
  have hn := hw.1.2.2.1
  have key := lpv_for (f := f_X9_nearToAny_5 stn x) (fun i => (orT (fun p => if tb x p = true then nearF w.2 p else 0) i, nI i)) w.1 (r := ntaF w x) (fun i hi => ?_) ?_ 0 (Nat.zero_le _)
  · unfold f_X9_nearToAny
    rw [show ((0 : Int64), (0 : Int32)) = (orT (fun p => if tb x p = true then nearF w.2 p else 0) 0, nI 0) from rfl, key, ob_s]
  · unfold f_X9_nearToAny_5
    dsimp only
    rw [hw.1.1, if_neg (nI_ge hi (by omega)), has_10 (by omega), ob_s]
    simp only [bnd, nI_1, orT]
    cases hb : tb x i with
    | true => rw [if_neg b2t, if_pos rfl, nearAt_10 hw hi, ob_s]
    | false => rw [if_pos b2f, if_neg (by decide), or0]
  · unfold f_X9_nearToAny_5
    dsimp only
    rw [hw.1.1, if_pos (nI_le (Nat.le_refl _) (by omega))]
    rfl
theorem rn_P {s j o : Nat} (ho : o < w.1) : Rn w s (j + 1) o ↔ Rn w s j o ∨ ∃ l, l < w.2.length ∧ Rn w s j (w.1 + l) ∧ tb (wl w.2 l) o = true := by
  simp only [Rn]
  constructor
  · rintro (h | ⟨h1, a, h2, h3, h4⟩)
    · exact Or.inl h
    · unfold onB at h4
      by_cases c : w.1 ≤ a
      · rw [if_pos c, if_neg (by omega)] at h4
        unfold nod at h2
        exact Or.inr ⟨a - w.1, by omega, by rw [show w.1 + (a - w.1) = a by omega]; exact h3, h4⟩
      · rw [if_neg c, if_pos ho] at h4
        cases h4
  · rintro (h | ⟨l, h1, h2, h3⟩)
    · exact Or.inl h
    · refine Or.inr ⟨by unfold nod; omega, w.1 + l, by unfold nod; omega, h2, ?_⟩
      unfold onB
      rw [if_pos (by omega), if_neg (by omega), show w.1 + l - w.1 = l by omega]
      exact h3
theorem rn_L {s j l : Nat} (hl : l < w.2.length) : Rn w s (j + 1) (w.1 + l) ↔ Rn w s j (w.1 + l) ∨ ∃ a, a < w.1 ∧ Rn w s j a ∧ tb (wl w.2 l) a = true := by
  simp only [Rn]
  constructor
  · rintro (h | ⟨h1, a, h2, h3, h4⟩)
    · exact Or.inl h
    · unfold onB at h4
      by_cases c : w.1 ≤ a
      · rw [if_pos c, if_pos (by omega)] at h4
        cases h4
      · rw [if_neg c, if_neg (by omega), show w.1 + l - w.1 = l by omega] at h4
        exact Or.inr ⟨a, by omega, h3, h4⟩
  · rintro (h | ⟨a, h1, h2, h3⟩)
    · exact Or.inl h
    · refine Or.inr ⟨by unfold nod; omega, a, by unfold nod; omega, h2, ?_⟩
      unfold onB
      rw [if_neg (by omega), if_neg (by omega), show w.1 + l - w.1 = l by omega]
      exact h3
theorem rn_odd {s : Nat} (hs : s < w.1) : ∀ t, (∀ o, o < w.1 → (Rn w s (2 * t + 1) o ↔ Rn w s (2 * t) o)) ∧ ∀ l, l < w.2.length → (Rn w s (2 * t + 1) (w.1 + l) ↔ ∃ a, a < w.1 ∧ Rn w s (2 * t) a ∧ tb (wl w.2 l) a = true) := by
  intro t
  induction t with
  | zero =>
    refine ⟨fun o ho => ?_, fun l hl => ?_⟩
    · rw [rn_P ho]
      refine ⟨fun h => h.resolve_right (fun ⟨l, h1, h2, h3⟩ => ?_), Or.inl⟩
      have h2 : w.1 + l = s := h2
      omega
    · rw [rn_L hl]
      refine ⟨fun h => h.resolve_left (fun h2 => ?_), Or.inr⟩
      have h2 : w.1 + l = s := h2
      omega
  | succ t ih =>
    obtain ⟨h1, h2⟩ := ih
    have hL : ∀ l, l < w.2.length → (Rn w s (2 * t + 2) (w.1 + l) ↔ Rn w s (2 * t + 1) (w.1 + l)) := fun l hl => by
      rw [rn_L (j := 2 * t + 1) hl]
      refine ⟨fun h => h.elim id (fun ⟨a, a1, a2, a3⟩ => (h2 l hl).mpr ⟨a, a1, (h1 a a1).mp a2, a3⟩), Or.inl⟩
    refine ⟨fun o ho => ?_, fun l hl => ?_⟩
    · show Rn w s (2 * t + 2 + 1) o ↔ Rn w s (2 * t + 2) o
      rw [rn_P (j := 2 * t + 2) ho]
      refine ⟨fun h => h.elim id (fun ⟨l, l1, l2, l3⟩ => ?_), Or.inl⟩
      exact (rn_P (j := 2 * t + 1) ho).mpr (Or.inr ⟨l, l1, (hL l l1).mp l2, l3⟩)
    · show Rn w s (2 * t + 2 + 1) (w.1 + l) ↔ _
      rw [rn_L (j := 2 * t + 2) hl]
      refine ⟨fun h => h.elim (fun h3 => ?_) id, Or.inr⟩
      obtain ⟨a, a1, a2, a3⟩ := (h2 l hl).mp ((hL l hl).mp h3)
      exact ⟨a, a1, a2.up (by omega), a3⟩
theorem seen_lt (hW : WFw w) (hn : w.1 ≤ 64) (hl : w.2.length ≤ 64) {x : Int64} (hx : ∀ i, tb x i = true → i < w.1) : ∀ t i, tb (seen w x t) i = true → i < w.1 := by
  intro t
  induction t with
  | zero => exact hx
  | succ t ih =>
    intro i hi
    simp only [seen] at hi
    rw [tb_or, Bool.or_eq_true] at hi
    rcases hi with hi | hi
    · exact ih i hi
    · unfold ntaF at hi
      rw [tb_orT] at hi
      obtain ⟨p, hp, h⟩ := hi
      by_cases c : tb (seen w x t) p = true
      · rw [if_pos c, tb_near (by omega)] at h
        obtain ⟨_, j, hj, _, h2⟩ := h
        exact hW.pt hn hj h2
      · rw [if_neg c, tb_0] at h
        cases h
theorem seen_rn (hW : WFw w) (hn : w.1 ≤ 64) {s : Nat} (hs : s < w.1) : ∀ t o, o < w.1 → (tb (seen w (bit1 s) t) o = true ↔ Rn w s (2 * t) o) := by
  intro t
  induction t with
  | zero =>
    intro o ho
    simp only [seen]
    rw [tb_bit1 (by omega)]
    simp [Rn]
  | succ t ih =>
    intro o ho
    simp only [seen]
    rw [tb_or, Bool.or_eq_true, ih o ho, show 2 * (t + 1) = 2 * t + 1 + 1 by omega, rn_P (j := 2 * t + 1) ho]
    obtain ⟨h1, h2⟩ := rn_odd hs t
    constructor
    · rintro (h | h)
      · exact Or.inl (h.up (by omega))
      · unfold ntaF at h
        rw [tb_orT] at h
        obtain ⟨p, hp, h⟩ := h
        by_cases c : tb (seen w (bit1 s) t) p = true
        · rw [if_pos c, tb_near (by omega)] at h
          obtain ⟨_, j, hj, h3, h4⟩ := h
          exact Or.inr ⟨j, hj, (h2 j hj).mpr ⟨p, hp, (ih p hp).mp c, h3⟩, h4⟩
        · rw [if_neg c, tb_0] at h
          cases h
    · rintro (h | ⟨l, l1, l2, l3⟩)
      · exact Or.inl ((h1 o ho).mp h)
      · obtain ⟨a, a1, a2, a3⟩ := (h2 l l1).mp l2
        by_cases c : a = o
        · exact Or.inl (by rw [← c]; exact a2)
        · right
          unfold ntaF
          rw [tb_orT]
          refine ⟨a, a1, ?_⟩
          rw [if_pos ((ih a a1).mpr a2), tb_near (by omega)]
          exact ⟨fun z => c z.symm, l, l1, a3, l3⟩
/-- the distance as an answer -/
def DV (w : Wd) (s b : Nat) (v : Int32) : Prop := (∃ d, d < 128 ∧ v = nI d ∧ Rn w s d b ∧ ∀ j, j < d → ¬ Rn w s j b) ∨ (v = -1 ∧ ∀ j, ¬ Rn w s j b)
theorem DV.eq {s b : Nat} {u v : Int32} (hu : DV w s b u) (hv : DV w s b v) : u = v := by
  rcases hu with ⟨d, _, e1, h1, h2⟩ | ⟨e1, h1⟩ <;> rcases hv with ⟨e, _, e2, h3, h4⟩ | ⟨e2, h3⟩
  · have : d = e := by
      rcases Nat.lt_trichotomy d e with q | q | q
      · exact absurd h1 (h4 d q)
      · exact q
      · exact absurd h3 (h2 e q)
    rw [e1, e2, this]
  · exact absurd h1 (h3 d)
  · exact absurd h3 (h1 e)
  · rw [e1, e2]
theorem rn_even {s b : Nat} (hs : s < w.1) (hb : b < w.1) {t : Nat} (h : Rn w s (2 * t) b) (h2 : ∀ k, k < t → ¬ Rn w s (2 * k) b) : ∀ j, j < 2 * t → ¬ Rn w s j b := by
  intro j hj hR
  rcases (by omega : j % 2 = 0 ∨ j % 2 = 1) with q | q
  · exact h2 (j / 2) (by omega) (by rw [show 2 * (j / 2) = j by omega]; exact hR)
  · refine h2 (j / 2) (by omega) (((rn_odd hs (j / 2)).1 b hb).mp ?_)
    rw [show 2 * (j / 2) + 1 = j by omega]
    exact hR
theorem bit1_ne {s : Nat} (hs : s < 64) : bit1 s ≠ 0 := fun z => by
  have : tb (bit1 s) s = true := by rw [tb_bit1 hs]; exact decide_eq_true rfl
  rw [z, tb_0] at this
  cases this
theorem between_9 (hw : CW stn w) (hW : WFw w) {s b : Nat} (hs : s < w.1) (hb : b < w.1) : ∃ v, f_X9_between stn (nI s) (nI b) = some v ∧ DV w s b v := by
  have hn := hw.1.2.2.1
  have hx := bit1_ne (s := s) (by omega)
  have hR := seen_rn hW hn hs
  have key := lpv_inv (f := f_X9_between_7 stn (nI b)) (fun t z => z = (seen w (bit1 s) t, nI (2 * t)) ∧ (∀ k, k < t → seen w (bit1 s) (k + 1) ≠ seen w (bit1 s) k) ∧ ∀ k, k < t → tb (seen w (bit1 s) k) b = false) 64 (fun r => ∃ v, r = (0, v) ∧ DV w s b v ∨ r = (1, v) ∧ DV w s b (-1)) (fun t z ht hI => ?_) (fun z hI => ?_) 0 (bit1 s, 0) (Nat.zero_le _) ⟨rfl, fun k hk => by omega, fun k hk => by omega⟩
  · obtain ⟨r, e, v, h | h⟩ := key
    · refine ⟨v, ?_, h.2⟩
      unfold f_X9_between
      rw [sh1 (by omega)]
      dsimp only [bnd]
      rw [e, ob_s, h.1]
      rfl
    · refine ⟨-1, ?_, h.2⟩
      unfold f_X9_between
      rw [sh1 (by omega)]
      dsimp only [bnd]
      rw [e, ob_s, h.1]
      rfl
  · obtain ⟨e, h1, h2⟩ := hI
    subst e
    have hst : f_X9_between_7 stn (nI b) (seen w (bit1 s) t, nI (2 * t)) = if tb (seen w (bit1 s) t) b = true then some (.inr (0, nI (2 * t))) else if seen w (bit1 s) (t + 1) = seen w (bit1 s) t then some (.inr (1, nI (2 * t))) else some (.inl (seen w (bit1 s) (t + 1), nI (2 * (t + 1)))) := by
      unfold f_X9_between_7
      dsimp only
      rw [if_neg (show ¬ (128 : Int32) < nI (2 * t) from nI_nlt (b := 2 * t) (a := 128) (by omega) (by decide)), has_10 (by omega), ob_s]
      cases hc : tb (seen w (bit1 s) t) b with
      | true => rw [if_neg b2t, if_pos rfl]
      | false =>
        rw [if_pos b2f, if_neg (by decide), nta_9 hw, ob_s]
        simp only [bnd, lg_cmp_eq]
        rw [show nI (2 * t) + 2 = nI (2 * (t + 1)) from nI_add _ _]
        rfl
    cases hc : tb (seen w (bit1 s) t) b with
    | true =>
      right
      rw [hst, if_pos hc]
      refine ⟨_, rfl, nI (2 * t), Or.inl ⟨rfl, Or.inl ⟨2 * t, by omega, rfl, (hR t b hb).mp hc, rn_even hs hb ((hR t b hb).mp hc) (fun k hk z => ?_)⟩⟩⟩
      have := h2 k hk
      rw [(hR k b hb).mpr z] at this
      cases this
    | false =>
      rw [hst, if_neg (by rw [hc]; decide)]
      by_cases hf : seen w (bit1 s) (t + 1) = seen w (bit1 s) t
      · right
        rw [if_pos hf]
        refine ⟨_, rfl, nI (2 * t), Or.inr ⟨rfl, Or.inr ⟨rfl, fun j hj => ?_⟩⟩⟩
        have h3 : Rn w s (2 * (t + j)) b := hj.up (by omega)
        have h4 := (hR (t + j) b hb).mpr h3
        rw [seen_fix hf, hc] at h4
        cases h4
      · left
        rw [if_neg hf]
        refine ⟨_, rfl, rfl, fun k hk => ?_, fun k hk => ?_⟩
        · rcases Nat.lt_or_ge k t with q | q
          · exact h1 k q
          · rw [show k = t by omega]; exact hf
        · rcases Nat.lt_or_ge k t with q | q
          · exact h2 k q
          · rw [show k = t by omega]; exact hc
  · obtain ⟨e, h1, h2⟩ := hI
    have := seen_grow hx 64 h1
    have := pcn_le (seen w (bit1 s) 64)
    omega
theorem q_far (hW : WFw w) (h : RWo st w.1 w.2) (a0 a1 : Int32) : ∃ k : Nat ⊕ Int32, (∀ stt stn, CW stn w → f_X11_far stt stn a0 a1 = some k) ∧ ∃ v x, f_X12_far st a0 a1 = some (v, x) ∧ Kt st x ∧ QA 0 k v x := by
  have h0 := h.th 0
  have hn := h.2.2.1
  have hm := h.2.2.2.1
  rcases out_or (i := a0) (n := w.1) with h1 | ⟨p, rfl, hp⟩
  · refine ⟨.inl 0, fun stt stn hw => ?_, 0, oI (oI st 2 0) 2 1, ?_, Kt.ff, Or.inl ⟨rfl, th_v⟩⟩
    · unfold f_X11_far
      rw [needPoint_11 stt hw.1, if_pos h1]
      rfl
    · unfold f_X12_far
      dsimp only [bnd]
      rw [isPoint_12 h0, if_pos h1, ob_s, if_pos rfl]
      rfl
  · have h1 := in_not h.2.2.1 hp
    rcases out_or (i := a1) (n := w.1) with h2 | ⟨q, rfl, hq⟩
    · refine ⟨.inl 0, fun stt stn hw => ?_, 0, oI (oI st 2 0) 2 1, ?_, Kt.ff, Or.inl ⟨rfl, th_v⟩⟩
      · unfold f_X11_far
        rw [needPoint_11 stt hw.1, if_neg h1, ob_s]
        dsimp only
        rw [needPoint_11 stt hw.1, if_pos h2]
        rfl
      · unfold f_X12_far
        dsimp only [bnd]
        rw [isPoint_12 h0, if_neg h1, ob_s, if_neg ne10, isPoint_12 h0, if_pos h2, ob_s, if_pos rfl]
        rfl
    · have h2 := in_not h.2.2.1 hq
      obtain ⟨v, x, e, k, hd⟩ := lays_12 h0 (s := p) (by unfold nod; omega)
      have hdv : DV w p q (x.2.2.1 27 q) := hd q (by unfold nod; omega)
      refine ⟨.inr (x.2.2.1 27 q), fun stt stn hw => ?_, x.2.2.1 27 q, x, ?_, Kt.p k, Or.inr ⟨rfl, k.v⟩⟩
      · obtain ⟨u, e2, h3⟩ := between_9 hw hW hp hq
        unfold f_X11_far
        rw [needPoint_11 stt hw.1, if_neg h1, ob_s]
        dsimp only
        rw [needPoint_11 stt hw.1, if_neg h2, ob_s]
        dsimp only
        rw [e2, ob_s, h3.eq hdv]
      · unfold f_X12_far
        dsimp only [bnd]
        rw [isPoint_12 h0, if_neg h1, ob_s, if_neg ne10, isPoint_12 h0, if_neg h2, ob_s, if_neg ne10, e, ob_s]
        dsimp only
        rw [if_pos (inb_t (by omega) (by omega)), nI_clamp (by omega)]
end WAYC
