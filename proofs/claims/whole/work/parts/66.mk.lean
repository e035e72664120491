/-! the Maker as it is made -/
def runN {σ ρ : Type} (f : σ → Option (σ ⊕ ρ)) : Nat → σ → Option ρ
  | 0, _ => none
  | n + 1, s => match f s with
    | some (.inl s') => runN f n s'
    | some (.inr r) => some r
    | none => none
theorem runN_lpv {σ ρ : Type} {f g : σ → Option (σ ⊕ ρ)} (hg : ∀ z v, g z = some v → f z = some v) : ∀ (n : Nat) (s : σ) (r : ρ), runN g n s = some r → lpv f s = some r := by
  intro n
  induction n with
  | zero => intro s r h; cases h
  | succ n ih =>
    intro s r h
    unfold runN at h
    cases hf : g s with
    | none => rw [hf] at h; cases h
    | some v =>
      rw [hf] at h
      have h2 := hg s v hf
      cases v with
      | inl s' => rw [lpv_in h2]; exact ih s' r h
      | inr r' =>
        have h3 : r' = r := Option.some.inj h
        rw [lpv_out h2, h3]
noncomputable def g_X3_init_32 : (OS × Int32 × Int32) → Option ((OS × Int32 × Int32) ⊕ (OS)) := fun z => match z with | (s_t, b1, b2) => (if 6 ≤ b2 then some (.inr s_t) else bnd (b2 + 1 : Int32) (fun v2 => (runN (f_X3_init_42 b2) 20 ((s_t, b1, v2))).bind (fun x13 => match x13 with | (t15, v16) => bnd (b2 + 1 : Int32) (fun v17 => some (.inl ((t15, v16, v17)))))))
theorem g32_f (z : OS × Int32 × Int32) (v : (OS × Int32 × Int32) ⊕ OS) (h : g_X3_init_32 z = some v) : f_X3_init_32 z = some v := by
  obtain ⟨s, b1, b2⟩ := z
  unfold g_X3_init_32 at h
  unfold f_X3_init_32
  dsimp only at h ⊢
  by_cases c : 6 ≤ b2
  · rw [if_pos c] at h ⊢
    exact h
  · rw [if_neg c] at h ⊢
    simp only [bnd] at h ⊢
    cases hr : runN (f_X3_init_42 b2) 20 (s, b1, b2 + 1) with
    | none => rw [hr] at h; cases h
    | some r =>
      rw [hr] at h
      rw [runN_lpv (fun z v h => h) 20 _ _ hr]
      exact h
noncomputable def mkO : Option OS := (runN g_X3_init_32 10 (stX3, 0, 0)).bind (fun x => runN f_X3_init_86 100 (x, 0, 0))
theorem mkO_some : mkO.isSome = true := by decide +kernel
theorem init_3 {x : OS} (h : mkO = some x) : f_X3_init = some x := by
  unfold mkO at h
  cases h1 : runN g_X3_init_32 10 (stX3, 0, 0) with
  | none => rw [h1] at h; cases h
  | some y =>
    rw [h1] at h
    have h : runN f_X3_init_86 100 (y, 0, 0) = some x := h
    unfold f_X3_init
    rw [runN_lpv g32_f 10 _ _ h1, ob_s, runN_lpv (fun z v h => h) 100 _ _ h, ob_s]
theorem init_ex : ∃ x, f_X3_init = some x ∧ mkO = some x := by
  cases h : mkO with
  | none =>
    have := mkO_some
    rw [h] at this
    cases this
  | some x => exact ⟨x, init_3 h, rfl⟩
