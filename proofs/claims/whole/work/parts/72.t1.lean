/-! turnings: marks -/
def plc (l : List Int64) : Nat → Nat
  | 0 => 0
  | k + 1 => plc l k + pcn (wl l k)
def uN (l : List Int64) : Nat → Nat → Bool
  | 0, _ => false
  | n + 1, i => uN l n i || tb (wl l n) i
theorem uN_iff {l : List Int64} {i : Nat} : ∀ {n}, uN l n i = true ↔ ∃ k, k < n ∧ tb (wl l k) i = true := by
  intro n
  induction n with
  | zero => simp [uN]
  | succ n ih =>
    simp only [uN, Bool.or_eq_true, ih]
    constructor
    · rintro (⟨k, h1, h2⟩ | h)
      · exact ⟨k, by omega, h2⟩
      · exact ⟨n, by omega, h⟩
    · rintro ⟨k, h1, h2⟩
      rcases Nat.lt_or_ge k n with q | q
      · exact Or.inl ⟨k, q, h2⟩
      · exact Or.inr (by rw [show n = k by omega]; exact h2)
theorem cnt_dis {p q : Nat → Bool} : ∀ {n : Nat}, (∀ i, i < n → p i = true → q i = false) → cnt (fun i => p i || q i) n = cnt p n + cnt q n := by
  intro n
  induction n with
  | zero => intro _; rfl
  | succ n ih =>
    intro h
    rw [cnt_s, cnt_s, cnt_s, ih (fun i hi => h i (by omega))]
    have := h n (by omega)
    cases hp : p n with
    | true => rw [this hp]; simp; omega
    | false => cases q n <;> simp <;> omega
theorem plc_cnt {N : Nat} {l : List Int64} (h : KG N l) : ∀ n, n ≤ l.length → plc l n = cnt (uN l n) 64 := by
  intro n
  induction n with
  | zero =>
    intro _
    exact (cnt_0.mpr (fun i _ => rfl)).symm
  | succ n ih =>
    intro hn
    show plc l n + pcn (wl l n) = cnt (fun i => uN l n i || tb (wl l n) i) 64
    rw [ih (by omega), cnt_dis (fun i _ hu => ?_)]
    · rfl
    · rw [uN_iff] at hu
      obtain ⟨k, h1, h2⟩ := hu
      exact eq_false_of_ne_true (fun z => by have := h.2.2 k n i (by omega) (by omega) h2 z; omega)
theorem plc_N {N : Nat} {l : List Int64} (h : KG N l) (hN : N ≤ 64) {n : Nat} (hn : n ≤ l.length) : plc l n ≤ N := by
  rw [plc_cnt h n hn, cnt_out hN (fun i h1 _ => eq_false_of_ne_true (fun z => by
    rw [uN_iff] at z
    obtain ⟨k, k1, k2⟩ := z
    have := h.1 k i (by omega) k2
    omega))]
  exact cnt_le _ _
theorem plc_mono (l : List Int64) {k n : Nat} (h : k ≤ n) : plc l k ≤ plc l n := by
  induction n with
  | zero => rw [show k = 0 by omega]; exact Nat.le_refl _
  | succ n ih =>
    rcases Nat.lt_or_ge n k with q | q
    · rw [show k = n + 1 by omega]; exact Nat.le_refl _
    · have := ih q
      show _ ≤ plc l n + _
      omega
def mrkT (l : List Int64) (S : Int64) : Nat → Int64
  | 0 => 0
  | k + 1 => mrkT l S k ||| (fst64 (pcn (wl l k &&& S)) <<< ((nI (plc l k)).toInt64 &&& 63))
theorem pcn_and (x y : Int64) : pcn (x &&& y) ≤ pcn x := cnt_mono (fun i _ h => by rw [tb_and, Bool.and_eq_true] at h; exact h.1)
theorem pcn_pos' {x : Int64} (h : x ≠ 0) : 1 ≤ pcn x := pcn_pos (low_tb h).1
theorem mrk_bit {N : Nat} {l : List Int64} (h : KG N l) (h0 : ∀ k, k < l.length → wl l k ≠ 0) (hN : N ≤ 64) (S : Int64) {i : Nat} (hi : i < 64) : ∀ n, n ≤ l.length → (tb (mrkT l S n) i = true ↔ ∃ k, k < n ∧ plc l k ≤ i ∧ i < plc l k + pcn (wl l k &&& S)) := by
  intro n
  induction n with
  | zero =>
    intro _
    rw [show mrkT l S 0 = 0 from rfl, tb_0]
    simp
  | succ n ih =>
    intro hn
    have h1 := plc_N h hN hn
    have h2 := pcn_pos' (h0 n (by omega))
    have h3 : plc l (n + 1) = plc l n + pcn (wl l n) := rfl
    have h4 := pcn_le (wl l n &&& S)
    show tb (mrkT l S n ||| _) i = true ↔ _
    rw [tb_or, Bool.or_eq_true, ih (by omega), tb_shl (by omega) hi, Bool.and_eq_true, tb_fst64 h4]
    constructor
    · rintro (⟨k, k1, k2⟩ | ⟨k1, k2⟩)
      · exact ⟨k, by omega, k2⟩
      · have := of_decide_eq_true k1
        have := of_decide_eq_true k2
        exact ⟨n, by omega, by omega, by omega⟩
    · rintro ⟨k, k1, k2, k3⟩
      rcases Nat.lt_or_ge k n with q | q
      · exact Or.inl ⟨k, q, k2, k3⟩
      · have : k = n := by omega
        subst this
        exact Or.inr ⟨decide_eq_true k2, decide_eq_true (by omega)⟩
theorem plc_eq {N : Nat} {l m : List Int64} (h : KP N l m) : ∀ n, n ≤ l.length → plc l n = plc m n := by
  intro n
  induction n with
  | zero => intro _; rfl
  | succ n ih =>
    intro hn
    show plc l n + _ = plc m n + _
    rw [ih (by omega), h.2.2.2.2 n (by omega)]
theorem KP.ne {N : Nat} {l m : List Int64} (h : KP N l m) : ∀ k, k < m.length → wl m k ≠ 0 := fun k hk z => by
  have h1 := h.2.2.2.2 k (by have := h.2.2.1; omega)
  have h2 := pcn_pos' (h.2.2.2.1 k (by have := h.2.2.1; omega))
  rw [z, pcn_zero] at h1
  omega
theorem mrk_same {N : Nat} {l m : List Int64} (h : KP N l m) {S T : Int64} (he : ∀ k, k < l.length → pcn (wl l k &&& S) = pcn (wl m k &&& T)) : ∀ n, n ≤ l.length → mrkT l S n = mrkT m T n := by
  intro n
  induction n with
  | zero => intro _; rfl
  | succ n ih =>
    intro hn
    show mrkT l S n ||| _ = mrkT m T n ||| _
    rw [ih (by omega), he n (by omega), plc_eq h n (by omega)]
theorem mrk_le {N : Nat} {l m : List Int64} (h : KP N l m) (hN : N ≤ 64) {S T : Int64} (e : mrkT l S l.length = mrkT m T m.length) {k : Nat} (hk : k < l.length) : pcn (wl m k &&& T) ≤ pcn (wl l k &&& S) := by
  rcases Nat.lt_or_ge (pcn (wl l k &&& S)) (pcn (wl m k &&& T)) with q | q
  · exfalso
    have hm := h.2.2.1
    have hp := plc_eq h k (by omega)
    have a1 := pcn_and (wl m k) T
    have a2 := h.2.2.2.2 k hk
    have a3 := plc_N h.1 hN (show k + 1 ≤ l.length by omega)
    have a4 : plc l (k + 1) = plc l k + pcn (wl l k) := rfl
    have hi : plc l k + pcn (wl l k &&& S) < 64 := by omega
    have b1 := (mrk_bit h.2.1 h.ne hN T hi m.length (Nat.le_refl _)).mpr ⟨k, by omega, by omega, by omega⟩
    rw [← e] at b1
    obtain ⟨j, j1, j2, j3⟩ := (mrk_bit h.1 h.2.2.2.1 hN S hi l.length (Nat.le_refl _)).mp b1
    have a5 := pcn_and (wl l j) S
    have a6 : plc l (j + 1) = plc l j + pcn (wl l j) := rfl
    rcases Nat.lt_trichotomy j k with z | z | z
    · have := plc_mono l (show j + 1 ≤ k by omega)
      omega
    · subst z; omega
    · have := plc_mono l (show k + 1 ≤ j by omega)
      omega
  · exact q
theorem KP.sym {N : Nat} {l m : List Int64} (h : KP N l m) : KP N m l := ⟨h.2.1, h.1, h.2.2.1.symm, h.ne, fun k hk => (h.2.2.2.2 k (by have := h.2.2.1; omega)).symm⟩
theorem mrk_eq {N : Nat} {l m : List Int64} (h : KP N l m) (hN : N ≤ 64) {S T : Int64} (e : mrkT l S l.length = mrkT m T m.length) {k : Nat} (hk : k < l.length) : pcn (wl l k &&& S) = pcn (wl m k &&& T) :=
  Nat.le_antisymm (mrk_le h.sym hN e.symm (by have := h.2.2.1; omega)) (mrk_le h hN e hk)
/-- parts by marks, the first world's -/
def pbm (mk : Nat → Int64) : Nat → Nat → List Int64 → List Int64
  | 0, _, l => l
  | f + 1, k, l => if k < l.length then pbm mk f (k + 1) (if sel (wl l k) (fun i => decide (mk i = mk (low (wl l k)))) = wl l k then l else spl l k (sel (wl l k) (fun i => decide (mk i = mk (low (wl l k)))))) else l
