/-! turnings: kinds as lists of sets, of one world and of the other -/
theorem cnt_split (p q : Nat → Bool) : ∀ n, cnt p n = cnt (fun i => p i && q i) n + cnt (fun i => p i && !q i) n := by
  intro n
  induction n with
  | zero => rfl
  | succ n ih =>
    rw [cnt_s, cnt_s, cnt_s, ih]
    cases p n <;> cases q n <;> simp <;> omega
theorem pcn_dif {x p : Int64} (h : ∀ i, tb p i = true → tb x i = true) : pcn (x &&& (p ^^^ (-1))) + pcn p = pcn x := by
  unfold pcn
  rw [cnt_split (tb x) (tb p) 64]
  rw [Nat.add_comm]
  congr 1
  · exact cnt_cong (fun i _ => by
      cases hp : tb p i with
      | false => simp
      | true => rw [h i hp]; rfl)
  · exact cnt_cong (fun i _ => tb_dif x p i)
theorem pcn_N {x : Int64} {N : Nat} (hN : N ≤ 64) (h : ∀ i, tb x i = true → i < N) : pcn x = cnt (tb x) N := by
  unfold pcn
  exact cnt_out hN (fun i h1 _ => eq_false_of_ne_true (fun z => by have := h i z; omega))
/-- one to one -/
def BJ (N : Nat) (f : Nat → Nat) : Prop := (∀ i, i < N → f i < N) ∧ ∀ i j, i < N → j < N → f i = f j → i = j
theorem BJ.onto {N : Nat} {f : Nat → Nat} (h : BJ N f) {j : Nat} (hj : j < N) : ∃ i, i < N ∧ f i = j :=
  fb_onto h.1 (fun i j hij hj z => by have := h.2 i j (by omega) hj z; omega) hj
theorem cnt_bij {N : Nat} {f : Nat → Nat} (h : BJ N f) {P Q : Nat → Bool} (hPQ : ∀ i, i < N → P i = Q (f i)) : cnt P N = cnt Q N := by
  refine Nat.le_antisymm (cnt_rel (R := fun i j => j = f i) N Q (fun i hi hp => ⟨f i, h.1 i hi, by rw [← hPQ i hi]; exact hp, rfl⟩) (fun i k j hi hk _ _ h1 h2 => h.2 i k hi hk (h1.symm.trans h2))) (cnt_rel (R := fun j i => j = f i) N P (fun j hj hq => ?_) (fun i k j _ _ _ _ h1 h2 => h1.trans h2.symm))
  obtain ⟨i, hi, e⟩ := h.onto hj
  exact ⟨i, hi, by rw [hPQ i hi, e]; exact hq, e.symm⟩
theorem pcn_bij {N : Nat} {f : Nat → Nat} (hN : N ≤ 64) (h : BJ N f) {x y : Int64} (hx : ∀ i, tb x i = true → i < N) (hy : ∀ i, tb y i = true → i < N) (e : ∀ i, i < N → tb x i = tb y (f i)) : pcn x = pcn y := by
  rw [pcn_N hN hx, pcn_N hN hy]
  exact cnt_bij h e
theorem BJ.id {N : Nat} : BJ N (fun i => i) := ⟨fun _ h => h, fun _ _ _ _ h => h⟩
/-- a set in part -/
def sel (x : Int64) (P : Nat → Bool) : Int64 := orT (fun i => if (tb x i && P i) = true then bit1 i else 0) 64
theorem tb_sel (x : Int64) (P : Nat → Bool) (i : Nat) : tb (sel x P) i = (tb x i && P i) := by
  refine Bool.eq_iff_iff.mpr ?_
  unfold sel
  rw [tb_orT]
  constructor
  · rintro ⟨j, hj, h⟩
    by_cases c : (tb x j && P j) = true
    · rw [if_pos c, tb_bit1 hj] at h
      rw [of_decide_eq_true h]
      exact c
    · rw [if_neg c, tb_0] at h; cases h
  · intro h
    have hi : i < 64 := tb_lt (by rw [Bool.and_eq_true] at h; exact h.1)
    exact ⟨i, hi, by rw [if_pos h, tb_bit1 hi]; exact decide_eq_true rfl⟩
/-- kinds: each thing in just one -/
def KG (N : Nat) (l : List Int64) : Prop := (∀ k i, k < l.length → tb (wl l k) i = true → i < N) ∧ (∀ i, i < N → ∃ k, k < l.length ∧ tb (wl l k) i = true) ∧ (∀ k j i, k < l.length → j < l.length → tb (wl l k) i = true → tb (wl l j) i = true → k = j)
/-- .. of two worlds: as many of each, none empty -/
def KP (N : Nat) (l m : List Int64) : Prop := KG N l ∧ KG N m ∧ l.length = m.length ∧ (∀ k, k < l.length → wl l k ≠ 0) ∧ ∀ k, k < l.length → pcn (wl l k) = pcn (wl m k)
theorem KP.len {N : Nat} {l m : List Int64} (h : KP N l m) : l.length ≤ N := by
  refine fb_holes _ _ (fun k => low (wl l k)) (fun k hk => h.1.1 k _ hk (low_tb (h.2.2.2.1 k hk)).1) (fun i j hij hj e => ?_)
  have h1 := (low_tb (h.2.2.2.1 i (by omega))).1
  have h2 := (low_tb (h.2.2.2.1 j hj)).1
  rw [e] at h1
  have := h.1.2.2 i j _ (by omega) hj h1 h2
  omega
/-- a kind in two -/
def spl (l : List Int64) (k : Nat) (p : Int64) : List Int64 := l.set k p ++ [wl l k &&& (p ^^^ (-1))]
theorem spl_len (l : List Int64) (k : Nat) (p : Int64) : (spl l k p).length = l.length + 1 := by
  unfold spl
  rw [List.length_append, List.length_set]
  rfl
theorem wl_st {l : List Int64} {k j : Nat} {p : Int64} (hk : k < l.length) : wl (l.set k p) j = if j = k then p else wl l j := by
  unfold wl
  rw [List.getD_eq_getElem?_getD, List.getD_eq_getElem?_getD, List.getElem?_set]
  by_cases c : j = k
  · subst c
    rw [if_pos rfl, if_pos rfl, if_pos hk]
    rfl
  · rw [if_neg c, if_neg (fun z => c z.symm)]
theorem wl_spl {l : List Int64} {k j : Nat} {p : Int64} (hk : k < l.length) : wl (spl l k p) j = if j = k then p else if j = l.length then wl l k &&& (p ^^^ (-1)) else wl l j := by
  unfold spl
  have hlen : (l.set k p).length = l.length := List.length_set
  rcases Nat.lt_trichotomy j l.length with q | q | q
  · rw [wl_app (by omega), wl_st hk, if_neg (show ¬ j = l.length by omega)]
  · have h1 := wl_last (l := l.set k p) (s := wl l k &&& (p ^^^ (-1)))
    rw [hlen, ← q] at h1
    rw [h1, if_neg (by omega), if_pos q]
  · rw [wl_out (by rw [List.length_append, hlen]; show l.length + 1 ≤ j; omega), if_neg (by omega), if_neg (by omega), wl_out (by omega)]
theorem wl_ext {l m : List Int64} (h : l.length = m.length) (h2 : ∀ k, k < l.length → wl l k = wl m k) : l = m := by
  apply List.ext_getElem? 
  intro i
  rcases Nat.lt_or_ge i l.length with q | q
  · rw [wl_lt q, wl_lt (by omega), h2 i q]
  · rw [List.getElem?_eq_none q, List.getElem?_eq_none (by omega)]
section KPS
variable {N : Nat} {l m : List Int64} {k : Nat} {p q : Int64}
theorem KG.split (h : KG N l) (hk : k < l.length) (hp : ∀ i, tb p i = true → tb (wl l k) i = true) : KG N (spl l k p) := by
  obtain ⟨h1, h2, h3⟩ := h
  have key : ∀ j i, j < l.length + 1 → tb (wl (spl l k p) j) i = true → ∃ o, o < l.length ∧ tb (wl l o) i = true ∧ (j = k ∧ o = k ∧ tb p i = true ∨ j = l.length ∧ o = k ∧ tb p i = false ∨ j = o ∧ j ≠ k ∧ j ≠ l.length) := fun j i hj h => by
    rw [wl_spl hk] at h
    by_cases c : j = k
    · rw [if_pos c] at h
      exact ⟨k, hk, hp i h, Or.inl ⟨c, rfl, h⟩⟩
    · rw [if_neg c] at h
      by_cases d : j = l.length
      · rw [if_pos d, tb_dif, Bool.and_eq_true] at h
        exact ⟨k, hk, h.1, Or.inr (Or.inl ⟨d, rfl, by have := h.2; cases hb : tb p i with | false => rfl | true => rw [hb] at this; cases this⟩)⟩
      · rw [if_neg d] at h
        exact ⟨j, by omega, h, Or.inr (Or.inr ⟨rfl, c, d⟩)⟩
  refine ⟨fun j i hj h => ?_, fun i hi => ?_, fun j j' i hj hj' a b => ?_⟩
  · rw [spl_len] at hj
    obtain ⟨o, ho, z, _⟩ := key j i hj h
    exact h1 o i ho z
  · obtain ⟨o, ho, z⟩ := h2 i hi
    by_cases c : o = k
    · subst c
      cases hb : tb p i with
      | true => exact ⟨o, by rw [spl_len]; omega, by rw [wl_spl hk, if_pos rfl]; exact hb⟩
      | false => exact ⟨l.length, by rw [spl_len]; omega, by rw [wl_spl hk, if_neg (by omega), if_pos rfl, tb_dif, z, hb]; rfl⟩
    · exact ⟨o, by rw [spl_len]; omega, by rw [wl_spl hk, if_neg c, if_neg (by omega)]; exact z⟩
  · rw [spl_len] at hj hj'
    obtain ⟨o, ho, z, y⟩ := key j i hj a
    obtain ⟨o', ho', z', y'⟩ := key j' i hj' b
    have e := h3 o o' i ho ho' z z'
    subst e
    rcases y with ⟨y1, y2, y3⟩ | ⟨y1, y2, y3⟩ | ⟨y1, y2, y3⟩ <;> rcases y' with ⟨w1, w2, w3⟩ | ⟨w1, w2, w3⟩ | ⟨w1, w2, w3⟩
    · omega
    · rw [y3] at w3; cases w3
    · omega
    · rw [y3] at w3; cases w3
    · omega
    · omega
    · omega
    · omega
    · omega
theorem KP.split (h : KP N l m) (hk : k < l.length) (hp : ∀ i, tb p i = true → tb (wl l k) i = true) (hq : ∀ i, tb q i = true → tb (wl m k) i = true) (h0 : p ≠ 0) (hne : p ≠ wl l k) (hc : pcn p = pcn q) : KP N (spl l k p) (spl m k q) := by
  obtain ⟨g1, g2, g3, g4, g5⟩ := h
  have hkm : k < m.length := by omega
  have d1 := pcn_dif hp
  have d2 := pcn_dif hq
  have e := g5 k hk
  refine ⟨g1.split hk hp, g2.split hkm hq, by rw [spl_len, spl_len, g3], fun j hj => ?_, fun j hj => ?_⟩
  · rw [spl_len] at hj
    rw [wl_spl hk]
    by_cases c : j = k
    · rw [if_pos c]; exact h0
    · rw [if_neg c]
      by_cases d : j = l.length
      · rw [if_pos d]
        intro z
        refine hne (tb_ext (fun i _ => ?_))
        have h9 := tb_dif (wl l k) p i
        rw [z, tb_0] at h9
        cases hb : tb (wl l k) i with
        | false =>
          exact eq_false_of_ne_true (fun y => by have := hp i y; rw [hb] at this; cases this)
        | true =>
          rw [hb] at h9
          cases hb2 : tb p i with
          | true => rfl
          | false => rw [hb2] at h9; cases h9
      · rw [if_neg d]; exact g4 j (by omega)
  · rw [spl_len] at hj
    rw [wl_spl hk, wl_spl hkm, ← g3]
    by_cases c : j = k
    · rw [if_pos c, if_pos c]; exact hc
    · rw [if_neg c, if_neg c]
      by_cases d : j = l.length
      · rw [if_pos d, if_pos d]; omega
      · rw [if_neg d, if_neg d]; exact g5 j (by omega)
/-- finer kinds -/
def RF (l m l' m' : List Int64) : Prop := ∀ k', k' < l'.length → ∃ k, k < l.length ∧ (∀ i, tb (wl l' k') i = true → tb (wl l k) i = true) ∧ ∀ i, tb (wl m' k') i = true → tb (wl m k) i = true
theorem RF.rf : RF l m l m := fun k hk => ⟨k, hk, fun _ h => h, fun _ h => h⟩
theorem RF.tr {l1 m1 l2 m2 : List Int64} (h : RF l m l1 m1) (g : RF l1 m1 l2 m2) : RF l m l2 m2 := fun k hk => by
  obtain ⟨a, a1, a2, a3⟩ := g k hk
  obtain ⟨b, b1, b2, b3⟩ := h a a1
  exact ⟨b, b1, fun i z => b2 i (a2 i z), fun i z => b3 i (a3 i z)⟩
theorem RF.split (hlm : l.length = m.length) (hk : k < l.length) (hp : ∀ i, tb p i = true → tb (wl l k) i = true) (hq : ∀ i, tb q i = true → tb (wl m k) i = true) : RF l m (spl l k p) (spl m k q) := fun j hj => by
  rw [spl_len] at hj
  by_cases c : j = k
  · refine ⟨k, hk, fun i z => ?_, fun i z => ?_⟩
    · rw [wl_spl hk, if_pos c] at z; exact hp i z
    · rw [wl_spl (by omega), if_pos c] at z; exact hq i z
  · by_cases d : j = l.length
    · refine ⟨k, hk, fun i z => ?_, fun i z => ?_⟩
      · rw [wl_spl hk, if_neg c, if_pos d, tb_dif, Bool.and_eq_true] at z; exact z.1
      · rw [wl_spl (by omega), if_neg c, if_pos (by omega), tb_dif, Bool.and_eq_true] at z; exact z.1
    · refine ⟨j, by omega, fun i z => ?_, fun i z => ?_⟩
      · rw [wl_spl hk, if_neg c, if_neg d] at z; exact z
      · rw [wl_spl (by omega), if_neg c, if_neg (by omega)] at z; exact z
/-- a way that carries each kind to its kind -/
def RSP (f : Nat → Nat) (l m : List Int64) : Prop := ∀ k i, k < l.length → tb (wl l k) i = true → tb (wl m k) (f i) = true
theorem RSP.of {f : Nat → Nat} {l' m' : List Int64} (g : KG N l) (g' : KG N l') (hF : RF l m l' m') (h : RSP f l' m') : RSP f l m := fun k i hk hi => by
  obtain ⟨k', h1, h2⟩ := g'.2.1 i (g.1 k i hk hi)
  obtain ⟨o, o1, o2, o3⟩ := hF k' h1
  have := g.2.2 o k i o1 hk (o2 i h2) hi
  subst this
  exact o3 _ (h k' i h1 h2)
theorem RSP.iff {f : Nat → Nat} (h : KP N l m) (hR : RSP f l m) {i : Nat} (hi : i < N) (hk : k < l.length) : tb (wl l k) i = tb (wl m k) (f i) := by
  refine Bool.eq_iff_iff.mpr ⟨hR k i hk, fun z => ?_⟩
  obtain ⟨o, o1, o2⟩ := h.1.2.1 i hi
  have := h.2.1.2.2 o k (f i) (by have := h.2.2.1; omega) (by have := h.2.2.1; omega) (hR o i o1 o2) z
  subst this
  exact o2
theorem RSP.split {f : Nat → Nat} (hR : RSP f l m) (hp : ∀ i, tb p i = true → tb (wl l k) i = true) (hlm : l.length = m.length) (hk : k < l.length) (h : ∀ i, tb (wl l k) i = true → (tb p i = tb q (f i))) : RSP f (spl l k p) (spl m k q) := fun j i hj z => by
  rw [spl_len] at hj
  rw [wl_spl hk] at z
  rw [wl_spl (by omega)]
  by_cases c : j = k
  · rw [if_pos c] at z ⊢
    rw [← h i (hp i z)]; exact z
  · rw [if_neg c] at z ⊢
    by_cases d : j = l.length
    · rw [if_pos d, tb_dif, Bool.and_eq_true] at z
      rw [if_pos (by omega), tb_dif, hR k i hk z.1, ← h i z.1]
      exact z.2
    · rw [if_neg d] at z
      rw [if_neg (by omega)]
      exact hR j i (by omega) z
end KPS
