theorem Fr.osetN {G : mG} {S : Nat → Prop} {own own' : Nat → Nat} {m m' : mM} {L : LY} {q : Nat → Nat} {x : OS} (h : Fr S own m own' m') (hf : ∀ k, k ≤ L.2.1 → ohas L k = true → m (q k) = none) : Fr S own m own' (oset L G q x m') := fun a e ha => by
  have hn : oidx L q a = none := by
    cases h9 : oidx L q a with
    | none => rfl
    | some k =>
      obtain ⟨h1, h2, h3⟩ := oidx_some h9
      have := hf k h1 h2
      rw [h3, ha] at this
      cases this
  have he : oset L G q x m' a = m' a := by simp only [oset, hn]
  rw [he]
  exact h a e ha
theorem c_storeA {l : Launch} {G : mG} {ow : Nat → Nat} {m : mM} {q : Nat → Nat} {st : OS} (hq : At G ow m LX10 q st) {r i : Nat} {f : Nat → Option Nat} (hR : Row G ow m 20 r f) (hnq : ∀ j, f j ≠ some (q 5)) (hi : i < 20) :
    cQ l G yX1_store cX1_store 4 none rm_X1_store [.ref r, .int (nI i), .ref (q 5)] m (mQv G (fun m' => ∃ ow' f', Row G ow' m' 20 r f' ∧ (∀ j, j ≠ i → f' j = f j) ∧ (∃ a, f' i = some a ∧ Wat G ow' m' a st ∧ (f i = some a ∨ (f i = none ∧ m a = none))) ∧ Fr (fun x => x = r ∨ f i = some x) ow m ow' m')) := by
  cases hfi : f i with
  | some a =>
    obtain ⟨q1, st1, h1, h2⟩ := hR.2.1 i a hfi
    subst h1
    refine (c_X1_store hq h2 (fun z => hnq i (by rw [hfi, z])) hR.1.1 hi hfi).mono (mQv.mono (fun m' ⟨x, hx, hm⟩ => ?_))
    subst hm
    have hF := h2.fr (m := m) (x := x)
    refine ⟨ow, f, ⟨hF.c1 (fun z => h2.neC hR.1 z.symm) hR.1, fun j a hj => ?_, hR.2.2⟩, fun _ _ => rfl, ⟨q1 5, hfi, ⟨q1, x, rfl, h2.self, hx⟩, Or.inl rfl⟩, hF.mono (fun a z => Or.inr (by rw [z]; rfl))⟩
    by_cases hj1 : a = q1 5
    · exact ⟨q1, x, hj1.symm, h2.self⟩
    · exact (hR.2.1 j a hj).fr hF hj1
  | none =>
    refine (c_X1_storeN hq hR.1 hi hfi).mono (mQv.mono (fun m' ⟨q1, x, hx, hi1, hfn, hm⟩ => ?_))
    subst hm
    have hN : At G (ownN LX10 q1 ow) (oset LX10 G q1 stX10 m) LX10 q1 stX10 := At.new hi1
    have hFr : Fr (fun _ => False) ow m (ownN LX10 q1 ow) (oset LX10 G q1 stX10 m) := Fr.new hfn
    have hC1 := hFr.c1 id hR.1
    have hN2 := hN.up (e' := aQ G 4 20 (va_up f i (some (q1 5)))) hC1 (hN.neC hC1)
    have hF2 := hC1.fr (e' := aQ G 4 20 (va_up f i (some (q1 5))))
    have hF3 := hN2.fr (m := va_up (oset LX10 G q1 stX10 m) r (some (aQ G 4 20 (va_up f i (some (q1 5)))))) (x := x)
    have h0 : m (q1 5) = none := hfn 5 (Nat.le_refl _) ohas_N
    have hF : Fr (fun z => z = r) ow m (ownN LX10 q1 ow) (oset LX10 G q1 x (va_up (oset LX10 G q1 stX10 m) r (some (aQ G 4 20 (va_up f i (some (q1 5))))))) := ((hFr.mono (fun _ z => z.elim)).tr hF2).osetN hfn
    have hne : ∀ {a}, Wany G ow m a → a ≠ q1 5 := fun h z => h.ne0 (by rw [z]; exact h0)
    have hnr : q1 5 ≠ r := hN.neC hC1
    refine ⟨_, va_up f i (some (q1 5)), ⟨hF3.c1 (fun z => hnr z.symm) hC1.self, fun j a hj => ?_, fun j k a hj hk => ?_⟩, fun j hj => by simp [va_up, hj], ⟨q1 5, by simp [va_up], ⟨q1, x, rfl, hN2.self, hx⟩, Or.inr ⟨rfl, h0⟩⟩, ?_⟩
    · by_cases hji : j = i
      · subst hji
        simp only [va_up, if_pos] at hj
        cases hj
        exact ⟨q1, x, rfl, hN2.self⟩
      · have hj' : f j = some a := by simpa [va_up, hji] using hj
        have hw := hR.2.1 j a hj'
        exact hw.fr hF (fun z => hw.neC hR.1 z)
    · by_cases hji : j = i <;> by_cases hki : k = i
      · rw [hji, hki]
      · exfalso
        subst hji
        simp only [va_up, if_pos] at hj
        cases hj
        have hk' : f k = some (q1 5) := by simpa [va_up, hki] using hk
        exact hne (hR.2.1 k _ hk') rfl
      · exfalso
        subst hki
        simp only [va_up, if_pos] at hk
        cases hk
        have hj' : f j = some (q1 5) := by simpa [va_up, hji] using hj
        exact hne (hR.2.1 j _ hj') rfl
      · exact hR.2.2 j k a (by simpa [va_up, hji] using hj) (by simpa [va_up, hki] using hk)
    · exact hF.mono (fun _ z => Or.inl z)
/-- the History: its object, its rows, what they hold -/
def Hst (G : mG) (ow : Nat → Nat) (m : mM) (qh : Nat → Nat) (fb fa : Nat → Option Nat) (bs as : List OS) : Prop :=
  (∃ sth, At G ow m LX1 qh sth ∧ sth.1 2 = nI bs.length ∧ sth.1 3 = nI as.length) ∧ Row G ow m 20 (qh 0) fb ∧ Row G ow m 20 (qh 1) fa ∧ Holds G ow m fb bs ∧ Holds G ow m fa as ∧ qh 0 ≠ qh 1 ∧ (∀ i j a, fb i = some a → fa j ≠ some a) ∧ bs.length + as.length ≤ 20
def HR (qh : Nat → Nat) (fb fa : Nat → Option Nat) : Nat → Prop := fun r => r = qh 4 ∨ r = qh 0 ∨ r = qh 1 ∨ (∃ i, fb i = some r) ∨ (∃ i, fa i = some r)

