/-! the start: what holds before the first call -/
theorem lj_0 {G : mG} {x : OS} {a b ao : Nat} {h h1 h2 : mM} (hm : mkO = some x) (hP : newP LX11 G os0 (S11 G x) a h h1) (hx : h a ≠ none) (hb : h1 b = none) {q : Nat → Nat} (hq : q 53 = b) (h2e : h2 = oset LX12 G q stX12 (va_up h1 b (some (.inr (10, dflt LX12))))) (hi : oinj LX12 q) (hn : ∀ k, k < 53 → ohas LX12 k = true → va_up h1 b (some (.inr (10, dflt LX12))) (q k) = none) (ho : h2 ao = none) {fo : Nat → Int64} : LJ G a b ao (va_up h2 ao (some (aJ G 1 fo))) := by
  obtain ⟨ow, F, qt, e1, N, hF⟩ := nt_0 hm hP hx
  have hfree : ∀ k, k ≤ LX12.2.1 → ohas LX12 k = true → h1 (q k) = none := fun k hk hh => by
    by_cases c : k = 53
    · rw [c, hq]; exact hb
    · have h3 := hn k (by have : LX12.2.1 = 53 := rfl; omega) hh
      by_cases d : q k = b
      · rw [d] at h3
        simp [va_up] at h3
      · simpa [va_up, d] using h3
  have e2 : h2 = oset LX12 G q stX12 h1 := by
    rw [h2e]
    funext y
    simp only [oset]
    cases hc : oidx LX12 q y with
    | some j => rfl
    | none =>
      by_cases d : y = b
      · have : oidx LX12 q (q 53) = some 53 := oidx_at hi (Nat.le_refl _) rfl
        rw [hq, ← d, hc] at this
        cases this
      · simp [va_up, d]
  have f1 : Fr (fun _ => False) ow h1 (ownN LX12 q ow) h2 := by rw [e2]; exact Fr.new hfree
  have A1 : At G (ownN LX12 q ow) h2 LX12 q stX12 := by rw [e2]; exact At.new hi
  have f2 : Fr (fun _ => False) (ownN LX12 q ow) h2 (fun y => if y = ao then ao else ownN LX12 q ow y) (va_up h2 ao (some (aJ G 1 fo))) := fun y e9 hy => by
    have hne : y ≠ ao := fun z => by rw [z, ho] at hy; cases hy
    refine ⟨if_neg hne, fun _ => ?_, ?_⟩
    · simp only [va_up, if_neg hne]; exact hy
    · simp only [va_up, if_neg hne]; rw [hy]; exact Option.some_ne_none _
  have N2 := (N.frA f1.A (fun r _ z => z)).frA f2.A (fun r _ z => z)
  have A2 := Fr.at f2 (fun z => z) A1
  refine ⟨((0, []), [], []), fun _ => 0, 0, 0, -1, fun _ => none, fun _ => none, q, stX12, fo, ⟨_, F, qt, e1, hq, N2, A2, ⟨by simp [va_up], if_pos rfl⟩, fun z => ?_, fun z => ?_⟩, rr_0, wfs_0⟩
  · exact hF b z hb
  · have h3 := hF ao z
    obtain ⟨e9, he⟩ := Option.ne_none_iff_exists'.mp h3
    have h4 := (f1 ao e9 he).2.2
    exact h4 ho
