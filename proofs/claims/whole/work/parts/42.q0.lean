/-! questions: loops as folds; what both sides answer -/
def allF (P : Nat → Bool) : Nat → Nat → Bool
  | _, 0 => true
  | a, k + 1 => P a && allF P (a + 1) k
theorem lpv_allF {f : Int32 → Option (Int32 ⊕ Nat)} {P : Nat → Bool} {N : Nat} (hs : ∀ i, i < N → f (nI i) = if P i = true then some (.inl (nI (i + 1))) else some (.inr 0)) (he : ∀ i, N ≤ i → i ≤ N + 1 → f (nI i) = some (.inr 1)) : ∀ a, a ≤ N + 1 → lpv f (nI a) = some (if allF P a (N - a) = true then 1 else 0) := by
  intro a ha
  generalize hk : N - a = k
  induction k generalizing a with
  | zero =>
    rw [lpv_out (he a (by omega) ha)]
    rfl
  | succ k ih =>
    have h1 := hs a (by omega)
    cases hP : P a with
    | true =>
      rw [hP, if_pos rfl] at h1
      rw [lpv_in h1, ih (a + 1) (by omega) (by omega)]
      simp only [allF, hP, Bool.true_and]
    | false =>
      rw [hP, if_neg (by decide)] at h1
      rw [lpv_out h1]
      simp only [allF, hP, Bool.false_and]
      rfl
theorem allF_iff {P : Nat → Bool} : ∀ {k a : Nat}, allF P a k = true ↔ ∀ i, a ≤ i → i < a + k → P i = true := by
  intro k
  induction k with
  | zero => intro a; simp only [allF, true_iff]; intro i h1 h2; omega
  | succ k ih =>
    intro a
    simp only [allF, Bool.and_eq_true, ih]
    constructor
    · intro ⟨h1, h2⟩ i h3 h4
      rcases Nat.lt_or_ge a i with q | q
      · exact h2 i (by omega) (by omega)
      · rw [show i = a by omega]; exact h1
    · intro h
      exact ⟨h a (by omega) (by omega), fun i h1 h2 => h i (by omega) (by omega)⟩
def foldE {σ ρ : Type} (g : Nat → σ → σ ⊕ ρ) (out : σ → ρ) : Nat → Nat → σ → ρ
  | _, 0, s => out s
  | a, k + 1, s => match g a s with
    | .inl s' => foldE g out (a + 1) k s'
    | .inr r => r
def opE {σ τ ρ : Type} (f : σ → τ) : σ ⊕ ρ → Option (τ ⊕ ρ)
  | .inl s => some (.inl (f s))
  | .inr r => some (.inr r)
theorem lpv_foldE {σ τ ρ : Type} {f : τ → Option (τ ⊕ ρ)} (st : Nat → σ → τ) (g : Nat → σ → σ ⊕ ρ) (out : σ → ρ) {N : Nat} (hs : ∀ i s, i < N → f (st i s) = opE (st (i + 1)) (g i s)) (he : ∀ s, f (st N s) = some (.inr (out s))) : ∀ a s, a ≤ N → lpv f (st a s) = some (foldE g out a (N - a) s) := by
  intro a s ha
  generalize hk : N - a = k
  induction k generalizing a s with
  | zero =>
    rw [show a = N by omega, lpv_out (he s)]
    rfl
  | succ k ih =>
    have h1 := hs a s (by omega)
    cases hg : g a s with
    | inl s' =>
      rw [hg] at h1
      dsimp only [opE] at h1
      rw [lpv_in h1, ih (a + 1) s' (by omega) (by omega)]
      simp only [foldE, hg]
    | inr r =>
      rw [hg] at h1
      dsimp only [opE] at h1
      rw [lpv_out h1]
      simp only [foldE, hg]
theorem foldE_cong {σ ρ : Type} {g g' : Nat → σ → σ ⊕ ρ} {out : σ → ρ} : ∀ {k a : Nat} {s : σ}, (∀ i s, a ≤ i → i < a + k → g i s = g' i s) → foldE g out a k s = foldE g' out a k s := by
  intro k
  induction k with
  | zero => intro a s h; rfl
  | succ k ih =>
    intro a s h
    simp only [foldE]
    rw [h a s (by omega) (by omega)]
    cases g' a s with
    | inl s' => exact ih (fun i s h1 h2 => h i s (by omega) (by omega))
    | inr r => rfl
/-- an answer on both sides: a throw of the j-th sort, or a value -/
def QA {α : Type} (j : Nat) (k : Nat ⊕ α) (v : α) (x : OS) : Prop := (k = .inl j ∧ x.1 2 = 1) ∨ (k = .inr v ∧ x.1 2 = 0)
theorem RWo.kt {st x : OS} {n : Nat} {l : List Int64} (h : RWo st n l) (k : Kt st x) : RWo x n l := h.cong (k.1 0 rfl) (k.1 1 rfl) (k.2.2 3 rfl)
theorem RWo.th {st : OS} {n : Nat} {l : List Int64} (h : RWo st n l) (v : Int32) : RWo (oI st 2 v) n l := h.kt (Kt.thr v)
theorem Kt.p {st x : OS} {v : Int32} (k : Kp (oI st 2 v) x) : Kt st x := Keep.tr (Kt.thr v) k.t
theorem Kp.v {st x : OS} {v : Int32} (k : Kp (oI st 2 v) x) : x.1 2 = v := (k.1 2 rfl).trans (oI_self st 2 v)
theorem th_v {st : OS} {v : Int32} : (oI st 2 v).1 2 = v := oI_self st 2 v
theorem Kt.ff {st : OS} {v w : Int32} : Kt st (oI (oI st 2 v) 2 w) := Keep.tr (Kt.thr v) (Kt.thr w)
theorem b2f : b2i false = 0 := rfl
theorem b2t : ¬ b2i true = 0 := by decide
theorem ne10 : ¬ (1 : Int32) = 0 := by decide
/-- the nears are laid -/
def RN (y : OS) (w : Wd) : Prop := RWo y w.1 w.2 ∧ ∀ p, p < w.1 → y.2.2.2 20 p = nearF w.2 p
theorem layN {st : OS} {w : Wd} (h : RWo st w.1 w.2) : ∃ x, f_X12_layNears st = some x ∧ Kp st x ∧ RN x w :=
  ⟨_, layNears_12 h, kp_near _, h.kp (kp_near _), fun p hp => by rw [oB_self, filL_in hp]⟩
section QS
variable {st : OS} {w : Wd}
theorem q_line (h : RWo st w.1 w.2) (a0 : Int32) : ∃ k, (∀ stt stn, CW stn w → f_X11_line stt stn a0 = some k) ∧ ∃ v x, f_X12_line st a0 = some (v, x) ∧ Kt st x ∧ QA 0 k v x := by
  have h0 := h.th 0
  rcases out_or (i := a0) (n := w.2.length) with h1 | ⟨j, rfl, hj⟩
  · refine ⟨.inl 0, fun stt stn hw => ?_, 0, oI (oI st 2 0) 2 1, ?_, Kt.ff, Or.inl ⟨rfl, th_v⟩⟩
    · unfold f_X11_line
      rw [needLine_11 stt hw.1, if_pos h1]
      rfl
    · unfold f_X12_line
      dsimp only [bnd]
      rw [isLine_12 h0, if_pos h1, ob_s, if_pos rfl]
      rfl
  · have h1 := in_not h.2.2.2.1 hj
    have hl := h.2.2.2.1
    refine ⟨.inr (wl w.2 j), fun stt stn hw => ?_, wl w.2 j, oI st 2 0, ?_, Kt.thr 0, Or.inr ⟨rfl, th_v⟩⟩
    · unfold f_X11_line
      rw [needLine_11 stt hw.1, if_neg h1, ob_s]
      dsimp only
      rw [setAt_10 hw.1 hj, ob_s]
    · unfold f_X12_line
      dsimp only [bnd]
      rw [isLine_12 h0, if_neg h1, ob_s, if_neg ne10, if_pos (inb_t (by omega) (by omega)), nI_clamp (by omega), h0.2.2.2.2 j hj]
theorem q_through (h : RWo st w.1 w.2) (a0 : Int32) : ∃ k, (∀ stt stn, CW stn w → f_X11_through stt stn a0 = some k) ∧ ∃ v x, f_X12_through st a0 = some (v, x) ∧ Kt st x ∧ QA 0 k v x := by
  have h0 := h.th 0
  rcases out_or (i := a0) (n := w.1) with h1 | ⟨j, rfl, hj⟩
  · refine ⟨.inl 0, fun stt stn hw => ?_, 0, oI (oI st 2 0) 2 1, ?_, Kt.ff, Or.inl ⟨rfl, th_v⟩⟩
    · unfold f_X11_through
      rw [needPoint_11 stt hw.1, if_pos h1]
      rfl
    · unfold f_X12_through
      dsimp only [bnd]
      rw [isPoint_12 h0, if_pos h1, ob_s, if_pos rfl]
      rfl
  · have hn := h.2.2.1
    have h1 := in_not hn hj
    refine ⟨.inr (thrF w.2 j), fun stt stn hw => ?_, thrF w.2 j, oI st 2 0, ?_, Kt.thr 0, Or.inr ⟨rfl, th_v⟩⟩
    · unfold f_X11_through
      rw [needPoint_11 stt hw.1, if_neg h1, ob_s]
      dsimp only
      rw [throughAt_10 hw hj, ob_s]
    · unfold f_X12_through
      dsimp only [bnd]
      rw [isPoint_12 h0, if_neg h1, ob_s, if_neg ne10, throughOf_12 h0 (by omega), ob_s]
theorem q_near (h : RWo st w.1 w.2) (a0 : Int32) : ∃ k, (∀ stt stn, CW stn w → f_X11_near stt stn a0 = some k) ∧ ∃ v x, f_X12_near st a0 = some (v, x) ∧ Kt st x ∧ QA 0 k v x := by
  have h0 := h.th 0
  rcases out_or (i := a0) (n := w.1) with h1 | ⟨j, rfl, hj⟩
  · refine ⟨.inl 0, fun stt stn hw => ?_, 0, oI (oI st 2 0) 2 1, ?_, Kt.ff, Or.inl ⟨rfl, th_v⟩⟩
    · unfold f_X11_near
      rw [needPoint_11 stt hw.1, if_pos h1]
      rfl
    · unfold f_X12_near
      dsimp only [bnd]
      rw [isPoint_12 h0, if_pos h1, ob_s, if_pos rfl]
      rfl
  · have hn := h.2.2.1
    have h1 := in_not hn hj
    obtain ⟨x, e, k, hx⟩ := layN h0
    refine ⟨.inr (nearF w.2 j), fun stt stn hw => ?_, nearF w.2 j, x, ?_, Kt.p k, Or.inr ⟨rfl, k.v⟩⟩
    · unfold f_X11_near
      rw [needPoint_11 stt hw.1, if_neg h1, ob_s]
      dsimp only
      rw [nearAt_10 hw hj, ob_s]
    · unfold f_X12_near
      dsimp only [bnd]
      rw [isPoint_12 h0, if_neg h1, ob_s, if_neg ne10, e, ob_s, if_pos (inb_t (by omega) (by omega)), nI_clamp (by omega), hx.2 j hj]
/-- what all points of a set are joined to -/
def acrG (w : Wd) (s : Int64) : Nat → Int64 → Int64 ⊕ Int64 := fun i b => .inl (if tb s i = true then b &&& (nearF w.2 i ||| bit1 i) else b)
def acr (w : Wd) (s : Int64) : Int64 := foldE (acrG w s) id 0 w.1 (fst64 w.1)
theorem across_10 {stn : OS} (hw : CW stn w) (s : Int64) : f_X10_acrossFrom stn s = some (acr w s) := by
  have hn := hw.1.2.2.1
  have key := lpv_foldE (f := f_X10_acrossFrom_8 stn s) (N := w.1) (fun i b => (b, nI i)) (acrG w s) id (fun i b hi => ?_) (fun b => ?_) 0 (fst64 w.1) (Nat.zero_le _)
  · unfold f_X10_acrossFrom
    rw [all_10 hw.1, ob_s]
    rw [show ((fst64 w.1, 0) : Int64 × Int32) = (fst64 w.1, nI 0) from rfl, key, ob_s]
    rfl
  · unfold f_X10_acrossFrom_8 acrG
    dsimp only
    rw [hw.1.1, if_neg (nI_ge hi (by omega)), has_10 (by omega), ob_s]
    cases hb : tb s i with
    | false => rw [if_pos b2f]; simp only [bnd, nI_1]; rfl
    | true => rw [if_neg (by decide), nearAt_10 hw hi, ob_s, sh1 (by omega)]; simp only [bnd, nI_1]; rfl
  · unfold f_X10_acrossFrom_8
    dsimp only
    rw [hw.1.1, if_pos (nI_le (Nat.le_refl _) (by omega))]
    rfl
theorem across_12 {y : OS} (hy : RN y w) (s : Int64) : f_X12_acrossOf y s = some (acr w s) := by
  have hn := hy.1.2.2.1
  have key := lpv_foldE (f := f_X12_acrossOf_8 y s) (N := w.1) (fun i b => (b, nI i)) (acrG w s) id (fun i b hi => ?_) (fun b => ?_) 0 (fst64 w.1) (Nat.zero_le _)
  · unfold f_X12_acrossOf
    rw [all_12 hy.1, ob_s]
    rw [show ((fst64 w.1, 0) : Int64 × Int32) = (fst64 w.1, nI 0) from rfl, key, ob_s]
    rfl
  · unfold f_X12_acrossOf_8 acrG
    dsimp only
    rw [hy.1.1, if_neg (nI_ge hi (by omega)), has_12 (by omega), ob_s]
    cases hb : tb s i with
    | false => rw [if_pos b2f]; simp only [bnd, nI_1]; rfl
    | true => rw [if_neg (by decide), if_pos (inb_t (by omega) (by omega)), bit_12 (by omega), ob_s, nI_clamp (by omega), hy.2 i hi]; simp only [bnd, nI_1]; rfl
  · unfold f_X12_acrossOf_8
    dsimp only
    rw [hy.1.1, if_pos (nI_le (Nat.le_refl _) (by omega))]
    rfl
theorem q_across (h : RWo st w.1 w.2) (a0 : Int64) : ∃ k, (∀ stt stn, CW stn w → f_X11_across stt stn a0 = some k) ∧ ∃ v x, f_X12_across st a0 = some (v, x) ∧ Kt st x ∧ QA 1 k v x := by
  have h0 := h.th 0
  by_cases h1 : a0 &&& (fst64 w.1 ^^^ (-1)) = 0
  · obtain ⟨x, e, k, hx⟩ := layN h0
    refine ⟨.inr (acr w a0), fun stt stn hw => ?_, acr w a0, x, ?_, Kt.p k, Or.inr ⟨rfl, k.v⟩⟩
    · unfold f_X11_across
      rw [needPoints_11 stt hw.1, if_pos h1, ob_s]
      dsimp only
      rw [across_10 hw, ob_s]
    · unfold f_X12_across
      dsimp only [bnd]
      rw [isSet_12 h0, if_pos h1, ob_s, if_neg ne10, e, ob_s, across_12 hx, ob_s]
  · refine ⟨.inl 1, fun stt stn hw => ?_, 0, oI (oI st 2 0) 2 1, ?_, Kt.ff, Or.inl ⟨rfl, th_v⟩⟩
    · unfold f_X11_across
      rw [needPoints_11 stt hw.1, if_neg h1]
      rfl
    · unfold f_X12_across
      dsimp only [bnd]
      rw [isSet_12 h0, if_neg h1, ob_s, if_pos rfl]
      rfl
def hyp (w : Wd) (p q : Nat) : Int64 := if p = q then 0 else if tb (nearF w.2 p) q = true then 0 else acr w (acr w (bit1 p ||| bit1 q))
theorem hyper_10 {stn : OS} (hw : CW stn w) {p q : Nat} (hp : p < w.1) (hq : q < w.1) : f_X10_hyperOf stn (nI p) (nI q) = some (hyp w p q) := by
  have hn := hw.1.2.2.1
  unfold f_X10_hyperOf hyp
  by_cases h1 : p = q
  · rw [if_pos (congrArg nI h1), if_pos h1]
  · rw [if_neg (fun z => h1 ((nI_eq (by omega) (by omega)).mp z)), if_neg h1, nearAt_10 hw hp, ob_s, has_10 (by omega), ob_s]
    cases hb : tb (nearF w.2 p) q with
    | true => rw [if_neg (by decide)]; rfl
    | false => rw [if_pos b2f, sh1 (by omega), sh1 (by omega), across_10 hw, ob_s, across_10 hw, ob_s]; rfl
theorem hyper_12 (h : RWo st w.1 w.2) {p q : Nat} (hp : p < w.1) (hq : q < w.1) : ∃ x, f_X12_hyperOf st (nI p) (nI q) = some (hyp w p q, x) ∧ Kp st x := by
  have hn := h.2.2.1
  obtain ⟨x, e, k, hx⟩ := layN h
  refine ⟨x, ?_, k⟩
  unfold f_X12_hyperOf hyp
  rw [e, ob_s]
  by_cases h1 : p = q
  · rw [if_pos (congrArg nI h1), if_pos h1]
  · rw [if_neg (fun z => h1 ((nI_eq (by omega) (by omega)).mp z)), if_neg h1, if_pos (inb_t (by omega) (by omega)), nI_clamp (by omega), hx.2 p hp, has_12 (by omega), ob_s]
    cases hb : tb (nearF w.2 p) q with
    | true => rw [if_neg (by decide)]; rfl
    | false => rw [if_pos b2f, bit_12 (by omega), ob_s, bit_12 (by omega), ob_s, across_12 hx, ob_s, across_12 hx, ob_s]; rfl
theorem q_hyper (h : RWo st w.1 w.2) (a0 a1 : Int32) : ∃ k, (∀ stt stn, CW stn w → f_X11_hyper stt stn a0 a1 = some k) ∧ ∃ v x, f_X12_hyper st a0 a1 = some (v, x) ∧ Kt st x ∧ QA 0 k v x := by
  have h0 := h.th 0
  rcases out_or (i := a0) (n := w.1) with h1 | ⟨p, rfl, hp⟩
  · refine ⟨.inl 0, fun stt stn hw => ?_, 0, oI (oI st 2 0) 2 1, ?_, Kt.ff, Or.inl ⟨rfl, th_v⟩⟩
    · unfold f_X11_hyper
      rw [needPoint_11 stt hw.1, if_pos h1]
      rfl
    · unfold f_X12_hyper
      dsimp only [bnd]
      rw [isPoint_12 h0, if_pos h1, ob_s, if_pos rfl]
      rfl
  · have h1 := in_not h.2.2.1 hp
    rcases out_or (i := a1) (n := w.1) with h2 | ⟨q, rfl, hq⟩
    · refine ⟨.inl 0, fun stt stn hw => ?_, 0, oI (oI st 2 0) 2 1, ?_, Kt.ff, Or.inl ⟨rfl, th_v⟩⟩
      · unfold f_X11_hyper
        rw [needPoint_11 stt hw.1, if_neg h1, ob_s]
        dsimp only
        rw [needPoint_11 stt hw.1, if_pos h2]
        rfl
      · unfold f_X12_hyper
        dsimp only [bnd]
        rw [isPoint_12 h0, if_neg h1, ob_s, if_neg ne10, isPoint_12 h0, if_pos h2, ob_s, if_pos rfl]
        rfl
    · have h2 := in_not h.2.2.1 hq
      obtain ⟨x, e, k⟩ := hyper_12 h0 hp hq
      refine ⟨.inr (hyp w p q), fun stt stn hw => ?_, hyp w p q, x, ?_, Kt.p k, Or.inr ⟨rfl, k.v⟩⟩
      · unfold f_X11_hyper
        rw [needPoint_11 stt hw.1, if_neg h1, ob_s]
        dsimp only
        rw [needPoint_11 stt hw.1, if_neg h2, ob_s]
        dsimp only
        rw [hyper_10 hw hp hq, ob_s]
      · unfold f_X12_hyper
        dsimp only [bnd]
        rw [isPoint_12 h0, if_neg h1, ob_s, if_neg ne10, isPoint_12 h0, if_neg h2, ob_s, if_neg ne10, e, ob_s]
end QS
