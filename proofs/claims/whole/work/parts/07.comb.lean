/-! PROGRAMS AS FUNCTIONS: what a method does, as a function into Option (none: an index outside its row, a divisor 0, or no end); a contract says: where the function gives something, the method ends with it. -/
def bnd {α β : Type} (a : α) (f : α → β) : β := f a
theorem bnd_e {α β : Type} {e v : α} {f : α → Option β} {x : β} (h : bnd e f = some x) (q : v = e) : f v = some x := by subst q; exact h
theorem if_t {β : Type} {c : Prop} [Decidable c] {a b : Option β} {x : β} (h : (if c then a else b) = some x) (q : c) : a = some x := by rw [if_pos q] at h; exact h
theorem if_f {β : Type} {c : Prop} [Decidable c] {a b : Option β} {x : β} (h : (if c then a else b) = some x) (q : ¬ c) : b = some x := by rw [if_neg q] at h; exact h
theorem gd {β : Type} {c : Prop} [Decidable c] {a : Option β} {x : β} (h : (if c then a else none) = some x) : c ∧ a = some x := by
  by_cases q : c
  · exact ⟨q, if_t h q⟩
  · cases if_f h q
theorem gn {β : Type} {c : Prop} [Decidable c] {a : Option β} {x : β} (h : (if c then none else a) = some x) : ¬ c ∧ a = some x := by
  by_cases q : c
  · cases if_t h q
  · exact ⟨q, if_f h q⟩
theorem bd {α β : Type} {o : Option α} {f : α → Option β} {x : β} (h : o.bind f = some x) : ∃ a, o = some a ∧ f a = some x := by
  cases o with
  | none => cases h
  | some a => exact ⟨a, rfl, h⟩
theorem sm {α : Type} {a b : α} (h : some a = some b) : a = b := Option.some.inj h
def inb (i : Int32) (n : Nat) : Bool := !(decide (i < 0) || decide (n ≤ i.toNatClampNeg))
theorem inb_in {i : Int32} {n : Nat} (h : inb i n = true) : vp_in i n := by
  intro q
  rcases q with q | q <;> simp [inb, q] at h
def isb (v : Int32) : Bool := decide (v = 0) || decide (v = 1)
theorem isb_or {v : Int32} (h : isb v = true) : v = 0 ∨ v = 1 := by simpa [isb] using h
theorem isb_nar {v : Int32} (h : isb v = true) : narrow .boolean (.int v) = .int v := by
  rcases isb_or h with rfl | rfl <;> rfl
theorem isb_fit {v : Int32} (h : isb v = true) : fits .boolean (.int v) = true := by
  rcases isb_or h with rfl | rfl <;> rfl
def b2i (b : Bool) : Int32 := if b = true then 1 else 0
theorem isb_b2i (b : Bool) : isb (b2i b) = true := by cases b <;> rfl
def lpf {σ ρ : Type} (f : σ → Option (σ ⊕ ρ)) : Nat → σ → Option ρ
  | 0, _ => none
  | n + 1, s => match f s with
    | none => none
    | some (.inl s') => lpf f n s'
    | some (.inr r) => some r
theorem lpf_mono {σ ρ : Type} {f : σ → Option (σ ⊕ ρ)} : ∀ (n k : Nat) (s : σ) (r : ρ), lpf f n s = some r → lpf f (n + k) s = some r := by
  intro n
  induction n with
  | zero => intro k s r h; cases h
  | succ n ih =>
    intro k s r h
    rw [show n + 1 + k = (n + k) + 1 by omega]
    simp only [lpf] at h ⊢
    cases hf : f s with
    | none => rw [hf] at h; cases h
    | some x =>
      rw [hf] at h
      cases x with
      | inl s' => exact ih k s' r h
      | inr r' => exact h
theorem lpf_det {σ ρ : Type} {f : σ → Option (σ ⊕ ρ)} {n k : Nat} {s : σ} {r r' : ρ} (h : lpf f n s = some r) (h' : lpf f k s = some r') : r = r' := by
  have a := lpf_mono n k s r h
  have b := lpf_mono k n s r' h'
  rw [show k + n = n + k by omega, a] at b
  exact Option.some.inj b
/-- a loop: the body f from the state s on, until it leaves -/
noncomputable def lpv {σ ρ : Type} (f : σ → Option (σ ⊕ ρ)) (s : σ) : Option ρ := @dite _ (∃ r n, lpf f n s = some r) (Classical.propDecidable _) (fun h => some h.choose) (fun _ => none)
theorem lpv_some {σ ρ : Type} {f : σ → Option (σ ⊕ ρ)} {s : σ} {r : ρ} : lpv f s = some r ↔ ∃ n, lpf f n s = some r := by
  unfold lpv
  by_cases h : ∃ r n, lpf f n s = some r
  · rw [dif_pos h]
    constructor
    · intro q
      rw [← Option.some.inj q]
      exact h.choose_spec
    · intro ⟨n, hn⟩
      obtain ⟨k, hk⟩ := h.choose_spec
      rw [lpf_det hk hn]
  · rw [dif_neg h]
    constructor
    · intro q; cases q
    · intro ⟨n, hn⟩; exact absurd ⟨r, n, hn⟩ h
def lpX {σ ρ : Type} (P : σ → ρ → Prop) (x : σ ⊕ ρ) (r : ρ) : Prop := match x with
  | .inl s' => P s' r
  | .inr r' => r' = r
theorem lpv_rec {σ ρ : Type} {f : σ → Option (σ ⊕ ρ)} {P : σ → ρ → Prop} (h : ∀ (s : σ) (r : ρ) (x : σ ⊕ ρ), f s = some x → lpX P x r → P s r) : ∀ (s : σ) (r : ρ), lpv f s = some r → P s r := by
  intro s r hs
  obtain ⟨n, hn⟩ := lpv_some.mp hs
  clear hs
  induction n generalizing s with
  | zero => cases hn
  | succ n ih =>
    simp only [lpf] at hn
    cases hf : f s with
    | none => rw [hf] at hn; cases hn
    | some x =>
      rw [hf] at hn
      refine h s r x hf ?_
      cases x with
      | inl s' => exact ih s' hn
      | inr r' => exact Option.some.inj hn
theorem lp_l {σ ρ : Type} {P : σ → ρ → Prop} {a : σ} {x : σ ⊕ ρ} {r : ρ} (h : some (Sum.inl a) = some x) (hx : lpX P x r) : P a r := by cases h; exact hx
theorem lp_r {σ ρ : Type} {P : σ → ρ → Prop} {a : ρ} {x : σ ⊕ ρ} {r : ρ} (h : some (Sum.inr a) = some x) (hx : lpX P x r) : a = r := by cases h; exact hx
theorem lpv_out {σ ρ : Type} {f : σ → Option (σ ⊕ ρ)} {s : σ} {r : ρ} (h : f s = some (.inr r)) : lpv f s = some r := lpv_some.mpr ⟨1, by simp [lpf, h]⟩
theorem lpv_in {σ ρ : Type} {f : σ → Option (σ ⊕ ρ)} {s s' : σ} (h : f s = some (.inl s')) : lpv f s = lpv f s' := by
  cases hs : lpv f s' with
  | some r =>
    obtain ⟨n, hn⟩ := lpv_some.mp hs
    exact lpv_some.mpr ⟨n + 1, by simp [lpf, h, hn]⟩
  | none =>
    cases hq : lpv f s with
    | none => rfl
    | some r =>
      obtain ⟨n, hn⟩ := lpv_some.mp hq
      cases n with
      | zero => cases hn
      | succ n =>
        simp only [lpf, h] at hn
        rw [lpv_some.mpr ⟨n, hn⟩] at hs
        cases hs
/-- a loop whose states are known: from the i-th to the N-th, then out -/
theorem lpv_for {σ ρ : Type} {f : σ → Option (σ ⊕ ρ)} (I : Nat → σ) (N : Nat) {r : ρ} (hs : ∀ i, i < N → f (I i) = some (.inl (I (i + 1)))) (he : f (I N) = some (.inr r)) : ∀ i, i ≤ N → lpv f (I i) = some r := by
  intro i hi
  have key : ∀ k i, i + k = N → lpv f (I i) = some r := by
    intro k
    induction k with
    | zero =>
      intro i hi
      rw [show i = N by omega]
      exact lpv_out he
    | succ k ih =>
      intro i hi
      rw [lpv_in (hs i (by omega))]
      exact ih (i + 1) (by omega)
  exact key (N - i) i (by omega)
section MZ
variable {p : Program} {l : Launch} {e : Env} {R : Room} {s : State} {m : MethodId} {args : Array Value} {below : List Frame} {meth : Method} {c : Code} {H : Heap} {locs : List Loc} {cells slots : Nat} {Q : State → Prop}
variable {pc mc ms : Nat} {ls : Array Slot} {rest st0 : List Value} {G : mG} {h : mM} {aa : Array Value}
theorem mr_ci0 (hH : mH G h s.heap H locs) {post : Int32 → mM → Prop} (z : mc = 0 ∧ ms = 0) (hr : va_Run p l e R s m args below meth c H locs cells slots mc ms (F0 m pc ls st0) rest (mQi G post aa) (mA G))
    (kk : ∀ (r : Int32) (h1 : mM) (H1 : Heap) (locs1 : List Loc), post r h1 → mH G h1 s.heap H1 locs1 → W p l e R s m args below meth c H1 locs1 cells slots Q (F0 m (pc + 3) ls (.int r :: rest))) : W p l e R s m args below meth c H locs cells slots Q (F0 m pc ls st0) := by
  obtain ⟨rfl, rfl⟩ := z
  exact mr_ci hH hr kk
theorem mr_cl0 (hH : mH G h s.heap H locs) {post : Int64 → mM → Prop} (z : mc = 0 ∧ ms = 0) (hr : va_Run p l e R s m args below meth c H locs cells slots mc ms (F0 m pc ls st0) rest (mQl G post aa) (mA G))
    (kk : ∀ (r : Int64) (h1 : mM) (H1 : Heap) (locs1 : List Loc), post r h1 → mH G h1 s.heap H1 locs1 → W p l e R s m args below meth c H1 locs1 cells slots Q (F0 m (pc + 3) ls (.long r :: rest))) : W p l e R s m args below meth c H locs cells slots Q (F0 m pc ls st0) := by
  obtain ⟨rfl, rfl⟩ := z
  exact mr_cl hH hr kk
theorem mr_cv0 (hH : mH G h s.heap H locs) {post : mM → Prop} (z : mc = 0 ∧ ms = 0) (hr : va_Run p l e R s m args below meth c H locs cells slots mc ms (F0 m pc ls st0) rest (mQv G post aa) (mA G))
    (kk : ∀ (h1 : mM) (H1 : Heap) (locs1 : List Loc), post h1 → mH G h1 s.heap H1 locs1 → W p l e R s m args below meth c H1 locs1 cells slots Q (F0 m (pc + 3) ls rest)) : W p l e R s m args below meth c H locs cells slots Q (F0 m pc ls st0) := by
  obtain ⟨rfl, rfl⟩ := z
  exact mr_cv hH hr kk
end MZ
/-- a row of a table of decoded instructions -/
theorem dk {cc : ByteArray} {tbl : List (Nat × Instr × Nat)} (hD : ∀ t ∈ tbl, decode cc t.1 = .ok (t.2.1, t.2.2)) (i : Nat) {pc : Nat} {ins : Instr} {len : Nat} (h : tbl[i]? = some (pc, ins, len)) : decode cc pc = .ok (ins, len) := hD (pc, ins, len) (List.mem_of_getElem? h)
