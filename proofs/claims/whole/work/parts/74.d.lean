/-! the text: worlds that have a name; lists that grow; grids -/
/-- what comes to a list, number by number -/
def gC (g : Nat → List Int64) : Nat → Nat → List Int64
  | _, 0 => []
  | a, k + 1 => g a ++ gC g (a + 1) k
theorem gC_cong {g g' : Nat → List Int64} : ∀ {k a : Nat}, (∀ i, a ≤ i → i < a + k → g i = g' i) → gC g a k = gC g' a k := by
  intro k
  induction k with
  | zero => intro a _; rfl
  | succ k ih =>
    intro a h
    show g a ++ _ = g' a ++ _
    rw [h a (by omega) (by omega), ih (fun i h1 h2 => h i (by omega) (by omega))]
theorem grow_loop {f : OS × Int32 → Option ((OS × Int32) ⊕ OS)} {P : OS → List Int64 → Prop} (g : Nat → List Int64) {N : Nat} (hs : ∀ i s l, i < N → P s l → l.length + (g i).length ≤ 64 → ∃ s', f (s, nI i) = some (.inl (s', nI (i + 1))) ∧ P s' (l ++ g i)) (he : ∀ s l, P s l → f (s, nI N) = some (.inr s)) : ∀ (k a : Nat) (s : OS) (l : List Int64), a + k = N → P s l → l.length + (gC g a k).length ≤ 64 → ∃ s', lpv f (s, nI a) = some s' ∧ P s' (l ++ gC g a k) := by
  intro k
  induction k with
  | zero =>
    intro a s l h hP _
    rw [show a = N by omega]
    exact ⟨s, lpv_out (he s l hP), by show P s (l ++ []); rw [List.append_nil]; exact hP⟩
  | succ k ih =>
    intro a s l h hP hl
    have e : gC g a (k + 1) = g a ++ gC g (a + 1) k := rfl
    rw [e, List.length_append] at hl
    obtain ⟨s1, h1, h2⟩ := hs a s l (by omega) hP (by omega)
    obtain ⟨s2, h3, h4⟩ := ih (a + 1) s1 (l ++ g a) (by omega) h2 (by rw [List.length_append]; omega)
    exact ⟨s2, by rw [lpv_in h1]; exact h3, by rw [e, ← List.append_assoc]; exact h4⟩
/-- the reference's new world -/
def NW12 (st : OS) (p : Nat) (l : List Int64) : Prop := st.1 15 = nI p ∧ st.1 16 = nI l.length ∧ l.length ≤ 64 ∧ ∀ i, i < l.length → st.2.2.2 17 i = wl l i
/-- all but the new world and two tables -/
def KM12 (st x : OS) : Prop := (∀ k, k ≠ 15 → k ≠ 16 → x.1 k = st.1 k) ∧ (∀ k, k ≠ 18 → k ≠ 19 → x.2.2.1 k = st.2.2.1 k) ∧ ∀ k, k ≠ 17 → x.2.2.2 k = st.2.2.2 k
theorem KM12.rf {st : OS} : KM12 st st := ⟨fun _ _ _ => rfl, fun _ _ _ => rfl, fun _ _ => rfl⟩
theorem KM12.tr {st x y : OS} (h : KM12 st x) (g : KM12 x y) : KM12 st y := ⟨fun k a b => (g.1 k a b).trans (h.1 k a b), fun k a b => (g.2.1 k a b).trans (h.2.1 k a b), fun k a => (g.2.2 k a).trans (h.2.2 k a)⟩
theorem KM12.o15 {st x : OS} (h : KM12 st x) (v : Int32) : KM12 st (oI x 15 v) := ⟨fun k a b => by rw [oI_ne _ a]; exact h.1 k a b, h.2.1, h.2.2⟩
/-- the new world so far, of a state that is kept -/
def NP (st : OS) (p : Nat) (s : OS) (l : List Int64) : Prop := NW12 s p l ∧ KM12 st s ∧ s.2.2.1 = st.2.2.1
theorem puts_12 {st s : OS} {p : Nat} {l : List Int64} (h : NP st p s l) (x : Int64) (hl : l.length < 64) : ∃ s', f_X12_puts s x = some s' ∧ NP st p s' (l ++ [x]) := by
  obtain ⟨⟨h1, h2, h3, h4⟩, ⟨k1, k2, k3⟩, k4⟩ := h
  refine ⟨oI (oB s 17 (vp_updL (s.2.2.2 17) l.length x)) 16 (nI (l.length + 1)), ?_, ⟨?_, ?_, ?_, fun i hi => ?_⟩, ⟨fun k a b => ?_, k2, fun k a => ?_⟩, k4⟩
  · unfold f_X12_puts
    rw [h2, if_pos (inb_t (by omega) (by omega)), nI_clamp (by omega)]
    dsimp only [bnd]
    rw [oB_1, h2, nI_1]
  · rw [oI_ne _ (by decide)]; exact h1
  · rw [oI_self, List.length_append]; rfl
  · rw [List.length_append]; show l.length + 1 ≤ 64; omega
  · rw [oI_2, oB_self]
    rw [List.length_append] at hi
    have hi : i < l.length + 1 := hi
    unfold vp_updL
    by_cases c : i = l.length
    · rw [if_pos c, c, wl_last]
    · rw [if_neg c, wl_app (by omega)]; exact h4 i (by omega)
  · rw [oI_ne _ b]; exact k1 k a b
  · rw [oI_2, oB_ne _ a]; exact k3 k a
/-- a grid's lines -/
def gdA (b i : Nat) : Int64 := fst64 b <<< ((nI (b * i)).toInt64 &&& 63)
def gdB (a b j : Nat) : Int64 := orT (fun i => bit1 (b * i + j)) a
def gdL (a b : Nat) : List Int64 := gC (fun i => [gdA b i]) 0 a ++ gC (fun j => [gdB a b j]) 0 b
theorem gC_one (f : Nat → Int64) : ∀ k a, (gC (fun i => [f i]) a k).length = k := by
  intro k
  induction k with
  | zero => intro a; rfl
  | succ k ih =>
    intro a
    show ([f a] ++ _).length = _
    rw [List.length_append, ih]
    show 1 + k = k + 1
    omega
section GRID
variable {st sto : OS} {a b : Nat}
theorem grid_3 (ha : a ≤ 8) (hb : b ≤ 8) (ha2 : 2 ≤ a) (hb2 : 2 ≤ b) : ∃ x, f_X3_makeGrid st sto (nI a) (nI b) = some x ∧ PL x (a * b) (gdL a b) := by
  have hab : a * b ≤ 64 := Nat.mul_le_mul ha hb
  obtain ⟨x0, e0, p0⟩ := clear_10 sto hab
  have hbi : ∀ i, i < a → b * i + b ≤ 64 := fun i hi => by
    have : b * (i + 1) ≤ 8 * 8 := Nat.mul_le_mul hb (by omega)
    rw [Nat.mul_add, Nat.mul_one] at this
    exact this
  obtain ⟨x1, e1, p1⟩ := grow_loop (f := f_X3_makeGrid_10 st (nI a) (nI b)) (P := fun s l => PL s (a * b) l) (fun i => [gdA b i]) (N := a) (fun i s l hi hP hl => by
    have hl : l.length + 1 ≤ 64 := hl
    obtain ⟨s', f1, f2⟩ := append_10 hP (gdA b i) (by omega)
    refine ⟨s', ?_, f2⟩
    unfold f_X3_makeGrid_10
    dsimp only
    rw [if_neg (nI_ge hi (by omega)), first_10 (by omega), ob_s, pk_mul]
    rw [show fst64 b <<< ((nI (b * i)).toInt64 &&& 63) = gdA b i from rfl, f1, ob_s]
    dsimp only [bnd]
    rw [nI_1]) (fun s l hP => by
    unfold f_X3_makeGrid_10
    dsimp only
    rw [if_pos (nI_le (Nat.le_refl _) (by omega))]) a 0 x0 [] (by omega) p0 (by rw [gC_one]; show 0 + a ≤ 64; omega)
  obtain ⟨x2, e2, p2⟩ := grow_loop (f := f_X3_makeGrid_38 st (nI a) (nI b)) (P := fun s l => PL s (a * b) l) (fun j => [gdB a b j]) (N := b) (fun j s l hj hP hl => by
    have hl : l.length + 1 ≤ 64 := hl
    obtain ⟨s', f1, f2⟩ := append_10 hP (gdB a b j) (by omega)
    refine ⟨s', ?_, f2⟩
    have inner := lpv_for (f := f_X3_makeGrid_50 st s (nI a) (nI b) (nI j)) (fun i => (orT (fun i => bit1 (b * i + j)) i, nI i)) a (r := gdB a b j) (fun i hi => by
      have := hbi i hi
      unfold f_X3_makeGrid_50
      dsimp only
      rw [if_neg (nI_ge hi (by omega)), pk_mul, nI_add, sh1 (by omega)]
      dsimp only [bnd, orT]
      rw [nI_1]) (by
      unfold f_X3_makeGrid_50
      dsimp only
      rw [if_pos (nI_le (Nat.le_refl _) (by omega))]
      rfl) 0 (Nat.zero_le _)
    have inner : lpv (f_X3_makeGrid_50 st s (nI a) (nI b) (nI j)) (0, 0) = some (gdB a b j) := inner
    unfold f_X3_makeGrid_38
    dsimp only
    rw [if_neg (nI_ge hj (by omega)), inner, ob_s, f1, ob_s]
    dsimp only [bnd]
    rw [nI_1]) (fun s l hP => by
    unfold f_X3_makeGrid_38
    dsimp only
    rw [if_pos (nI_le (Nat.le_refl _) (by omega))]) b 0 x1 _ (by omega) p1 (by rw [List.nil_append, gC_one, gC_one]; omega)
  refine ⟨x2, ?_, p2⟩
  unfold f_X3_makeGrid
  rw [pk_mul, e0, ob_s, show (0 : Int32) = nI 0 from rfl, e1, ob_s, e2, ob_s]
theorem grid_12 (ha : a ≤ 8) (hb : b ≤ 8) (h16 : st.1 16 = 0) : ∃ x, f_X12_grid st (nI a) (nI b) = some x ∧ NP st (a * b) x (gdL a b) := by
  obtain ⟨x0, hx0⟩ : ∃ x0, x0 = oI st 15 (nI (a * b)) := ⟨_, rfl⟩
  have p0 : NP st (a * b) x0 [] := by
    refine ⟨⟨?_, ?_, Nat.zero_le _, fun i hi => absurd hi (Nat.not_lt_zero _)⟩, ?_, ?_⟩
    · rw [hx0, oI_self]
    · rw [hx0, oI_ne _ (by decide), h16]; rfl
    · rw [hx0]; exact KM12.rf.o15 _
    · rw [hx0]; rfl
  have hbi : ∀ i, i < a → b * i + b ≤ 64 := fun i hi => by
    have : b * (i + 1) ≤ 8 * 8 := Nat.mul_le_mul hb (by omega)
    rw [Nat.mul_add, Nat.mul_one] at this
    exact this
  obtain ⟨x1, e1, p1⟩ := grow_loop (f := f_X12_grid_9 (nI a) (nI b)) (P := NP st (a * b)) (fun i => [gdA b i]) (N := a) (fun i s l hi hP hl => by
    have hl : l.length + 1 ≤ 64 := hl
    obtain ⟨s', f1, f2⟩ := puts_12 hP (gdA b i) (by omega)
    refine ⟨s', ?_, f2⟩
    unfold f_X12_grid_9
    dsimp only
    rw [if_neg (nI_ge hi (by omega)), allOf_12 (by omega), ob_s, pk_mul]
    rw [show fst64 b <<< ((nI (b * i)).toInt64 &&& 63) = gdA b i from rfl, f1, ob_s]
    dsimp only [bnd]
    rw [nI_1]) (fun s l hP => by
    unfold f_X12_grid_9
    dsimp only
    rw [if_pos (nI_le (Nat.le_refl _) (by omega))]) a 0 x0 [] (by omega) p0 (by rw [gC_one]; show 0 + a ≤ 64; omega)
  obtain ⟨x2, e2, p2⟩ := grow_loop (f := f_X12_grid_34 (nI a) (nI b)) (P := NP st (a * b)) (fun j => [gdB a b j]) (N := b) (fun j s l hj hP hl => by
    have hl : l.length + 1 ≤ 64 := hl
    obtain ⟨s', f1, f2⟩ := puts_12 hP (gdB a b j) (by omega)
    refine ⟨s', ?_, f2⟩
    have inner := lpv_for (f := f_X12_grid_45 s (nI a) (nI b) (nI j)) (fun i => (orT (fun i => bit1 (b * i + j)) i, nI i)) a (r := gdB a b j) (fun i hi => by
      have := hbi i hi
      unfold f_X12_grid_45
      dsimp only
      rw [if_neg (nI_ge hi (by omega)), pk_mul, nI_add, bit_12 (by omega), ob_s]
      dsimp only [bnd, orT]
      rw [nI_1]) (by
      unfold f_X12_grid_45
      dsimp only
      rw [if_pos (nI_le (Nat.le_refl _) (by omega))]
      rfl) 0 (Nat.zero_le _)
    have inner : lpv (f_X12_grid_45 s (nI a) (nI b) (nI j)) (0, 0) = some (gdB a b j) := inner
    unfold f_X12_grid_34
    dsimp only
    rw [if_neg (nI_ge hj (by omega)), inner, ob_s, f1, ob_s]
    dsimp only [bnd]
    rw [nI_1]) (fun s l hP => by
    unfold f_X12_grid_34
    dsimp only
    rw [if_pos (nI_le (Nat.le_refl _) (by omega))]) b 0 x1 _ (by omega) p1 (by rw [List.nil_append, gC_one, gC_one]; omega)
  refine ⟨x2, ?_, p2⟩
  unfold f_X12_grid
  dsimp only [bnd]
  rw [pk_mul, ← hx0, show (0 : Int32) = nI 0 from rfl, e1, ob_s, e2, ob_s]
end GRID
