/-! the text: the worlds that it says are right -/
def okWd (p : Nat) (l : List Int64) : Bool := l.all (fun s => decide (s.toBitVec.toNat < 2 ^ p) && decide (2 ≤ pcn s))
theorem okWd_wf {p : Nat} {l : List Int64} (hp : p ≤ 64) (h : okWd p l = true) : WFm (p, l) := fun s hs => by
  have := List.all_eq_true.mp h s hs
  rw [Bool.and_eq_true, decide_eq_true_iff, decide_eq_true_iff] at this
  refine ⟨sub_fst hp (fun i hi => ?_), this.2⟩
  rcases Nat.lt_or_ge i p with q | q
  · exact q
  · exfalso
    unfold tb BitVec.getLsbD at hi
    rw [Nat.testBit_lt_two_pow (Nat.lt_of_lt_of_le this.1 (Nat.pow_le_pow_right (by decide) q))] at hi
    cases hi
theorem ok_gd : ∀ u, u < 9 → ∀ v, v < 9 → 2 ≤ u → 2 ≤ v → okWd (u * v) (gdL u v) = true := by decide +kernel
theorem ok_dg : okWd 15 (dgL 0) = true := by decide +kernel
theorem ok_sx : okWd 27 (sxL ++ dgL 12) = true := by decide +kernel
theorem ok_th : okWd 40 thL = true := by decide +kernel
def RDok : RD → Prop
  | .inl (_, p, l) => WFm (p, l) ∧ p ≤ 64
  | .inr _ => True
theorem stop_wf {T : Nat → Nat} {n a p : Nat} {l : List Int64} (h : WFm (p, l)) (hp : p ≤ 64) : RDok (stopP T n a p l) := by
  unfold stopP
  split
  · exact ⟨h, hp⟩
  · trivial
theorem first_wf (T : Nat → Nat) (n a : Nat) : RDok (firstP T n a) := by
  unfold firstP
  split
  · cases hv : numP T n (enT T n a) 1 64 with
    | inr e => trivial
    | inl v => exact stop_wf (fun s hs => absurd hs List.not_mem_nil) (num_adv hv).2
  · split
    · cases hu : numP T n (enT T n a) 2 8 with
      | inr e => trivial
      | inl u =>
        dsimp only
        cases hv : numP T n (enT T n (enT T n a)) 2 8 with
        | inr e => trivial
        | inl v =>
          have g := num_adv hu
          have g' := num_adv hv
          have m1 : u * v ≤ 8 * 8 := Nat.mul_le_mul g.2 g'.2
          exact stop_wf (okWd_wf (by omega) (ok_gd u (by omega) v (by omega) g.1 g'.1)) (by omega)
    · split
      · exact stop_wf (okWd_wf (by decide) ok_dg) (by decide)
      · split
        · exact stop_wf (okWd_wf (by decide) ok_sx) (by decide)
        · split
          · exact stop_wf (okWd_wf (by decide) ok_th) (by decide)
          · trivial
theorem line_wf {T : Nat → Nat} {n a p : Nat} {l : List Int64} (h : WFm (p, l)) (hp : p ≤ 64) : RDok (lineP T n a p l) := by
  cases hr : lineP T n a p l with
  | inr e => trivial
  | inl z =>
    obtain ⟨a', p', l'⟩ := z
    obtain ⟨-, rfl, s', rfl, g1, g2⟩ := line_adv hp hr
    exact ⟨WFw.m (WFw.add h.w (sub_fst hp g2) g1), hp⟩
theorem lines_wf {T : Nat → Nat} {n : Nat} : ∀ (f : Nat) (r : RD), RDok r → RDok (linesP T n f r) := by
  intro f
  induction f with
  | zero => intro r h; exact h
  | succ f ih =>
    intro r h
    cases r with
    | inr e => trivial
    | inl z =>
      obtain ⟨a, p, l⟩ := z
      rw [linesP_l]
      split
      · exact h
      · exact ih _ (line_wf h.1 h.2)
theorem read_wf (T : Nat → Nat) (n : Nat) : RDok (readP T n) := by
  unfold readP
  split
  · exact ⟨fun s hs => absurd hs List.not_mem_nil, by decide⟩
  · exact lines_wf _ _ (first_wf T n 0)
