/-! the start: whose each cell is -/
def ownE (o : Nat → Nat) : List Ent → Nat → Nat
  | [] => o
  | .inl x :: es => ownN x.1 x.2.1 (ownE o es)
  | .inr c :: es => fun a => if a = c.1 then c.1 else ownE o es a
def EAt (G : mG) (ow : Nat → Nat) (m : mM) (e : Ent) : Prop := match e with
  | .inl x => At G ow m x.1 x.2.1 x.2.2
  | .inr c => C1 ow m c.1 c.2
def Eok (e : Ent) : Prop := match e with
  | .inl x => oinj x.1 x.2.1
  | .inr _ => True
theorem ent_fr {G : mG} {ow ow' : Nat → Nat} {m m' : mM} (h : Fr (fun _ => False) ow m ow' m') {e : Ent} (he : EAt G ow m e) : EAt G ow' m' e := by
  cases e with
  | inl x => exact Fr.at h (fun z => z) he
  | inr c => exact Fr.c1 h (fun z => z) he
theorem lay_at {G : mG} {h : mM} {o : Nat → Nat} : ∀ es : List Ent, freshs G es h → (∀ e ∈ es, Eok e) → ∀ e ∈ es, EAt G (ownE o es) (lay G es h) e := by
  intro es
  induction es with
  | nil => intro _ _ e he; cases he
  | cons b es ih =>
    intro hf hok e he
    have hb := hok b List.mem_cons_self
    have hfr : Fr (fun _ => False) (ownE o es) (lay G es h) (ownE o (b :: es)) (lay G (b :: es) h) := by
      cases b with
      | inl x =>
        exact Fr.new (fun k hk hh => hf.2 _ ⟨k, hk, hh, rfl⟩)
      | inr c =>
        intro a e9 ha
        have hn : a ≠ c.1 := fun z => by
          have := hf.2 a z.symm
          rw [ha] at this
          cases this
        refine ⟨if_neg hn, fun _ => ?_, ?_⟩
        · show va_up (lay G es h) c.1 (some c.2) a = _
          simp only [va_up, if_neg hn]
          exact ha
        · show va_up (lay G es h) c.1 (some c.2) a ≠ none
          simp only [va_up, if_neg hn]
          rw [ha]
          exact Option.some_ne_none _
    rcases List.mem_cons.mp he with z | z
    · subst z
      cases e with
      | inl x => exact At.new hb
      | inr c => exact ⟨by show va_up _ c.1 (some c.2) c.1 = _; simp [va_up], if_pos rfl⟩
    · exact ent_fr hfr (ih hf.1 (fun e he => hok e (List.mem_cons_of_mem _ he)) e z)
theorem lay_none {G : mG} {h : mM} {y : Nat} : ∀ es : List Ent, freshs G es h → ∀ e ∈ es, ecell e y → h y = none := by
  intro es
  induction es with
  | nil => intro _ e he; cases he
  | cons b es ih =>
    intro hf e he hy
    rcases List.mem_cons.mp he with z | z
    · subst z
      have h1 := hf.2 y hy
      by_cases c : ∃ b ∈ es, ecell b y
      · exact absurd h1 (lay_in es c)
      · rw [lay_out es (fun b hb z => c ⟨b, hb, z⟩)] at h1
        exact h1
    · exact ih hf.1 e z hy
/-- an object that is finished over its own address -/
theorem ent_keep {G : mG} {ow : Nat → Nat} {m : mM} {L : LY} {q : Nat → Nat} {st : OS} {e : Ent} (he : EAt G ow m e) (hd : ∀ k, k ≤ L.2.1 → ohas L k = true → ¬ ecell e (q k)) : EAt G (ownN L q ow) (oset L G q st m) e := by
  have hn : ∀ y, ecell e y → oidx L q y = none := fun y hy => by
    cases h : oidx L q y with
    | none => rfl
    | some k =>
      obtain ⟨h1, h2, h3⟩ := oidx_some h
      exact absurd hy (by rw [← h3]; exact hd k h1 h2)
  cases e with
  | inl x =>
    refine ⟨he.1, fun k hk hh => ?_⟩
    have h1 := he.2 k hk hh
    have h2 := hn (x.2.1 k) ⟨k, hk, hh, rfl⟩
    exact ⟨by simp only [oset, h2]; exact h1.1, by simp only [ownN, h2]; exact h1.2⟩
  | inr c =>
    have h2 := hn c.1 rfl
    exact ⟨by simp only [oset, h2]; exact he.1, by simp only [ownN, h2]; exact he.2⟩
theorem newP_at {G : mG} {L : LY} {st : OS} {S : List Ent → (Nat → Nat) → Prop} {x : Nat} {h h1 : mM} {o : Nat → Nat} (hP : newP L G st S x h h1) (hx : h x ≠ none) (hok : ∀ es q, S es q → ∀ e ∈ es, Eok e) : ∃ (q : Nat → Nat) (es : List Ent) (ow : Nat → Nat), S es q ∧ q L.2.1 = x ∧ At G ow h1 L q st ∧ es.Pairwise eap ∧ ∀ e ∈ es, EAt G ow h1 e := by
  obtain ⟨q, es, hS, hq, rfl, hi, hf, hn⟩ := hP
  refine ⟨q, es, ownN L q (ownE o es), hS, hq, At.new hi, freshs_apart es hf, fun e he => ent_keep (lay_at es hf (hok es q hS) e he) (fun k hk hh hc => ?_)⟩
  by_cases z : k = L.2.1
  · rw [z, hq] at hc
    exact hx (lay_none es hf e he hc)
  · have := hn k (by omega) hh
    exact lay_in es ⟨e, he, hc⟩ this
theorem nt_0 {G : mG} {x : OS} {a : Nat} {h h1 : mM} (hm : mkO = some x) (hP : newP LX11 G os0 (S11 G x) a h h1) (hx : h a ≠ none) : ∃ (ow : Nat → Nat) (F : Nat → Prop) (qt : Nat → Nat), qt 10 = a ∧ NT G ow h1 qt ((0, []), [], []) (fun _ => 0) 0 0 (-1) (fun _ => none) (fun _ => none) F ∧ ∀ r, F r → h1 r ≠ none := by
  obtain ⟨q, es, ow, hS, hq, hA, hap, hE⟩ := newP_at (o := fun y => y) hP hx (fun es q hS e he => by
    obtain ⟨qr, qm, qn, qd, qh, qc, qw, qk, qu, xi, xt, rfl, ⟨i1, i2, i3, i4, i5, i6, i7, i8, i9⟩, -⟩ := hS
    simp only [List.mem_cons, List.not_mem_nil, or_false] at he
    rcases he with rfl | rfl | rfl | rfl | rfl | rfl | rfl | rfl | rfl | rfl | rfl | rfl | rfl
    · exact i9
    · exact i8
    · exact i7
    · exact i6
    · trivial
    · trivial
    · exact i5
    · trivial
    · trivial
    · exact i4
    · exact i3
    · exact i1
    · exact i2)
  obtain ⟨qr, qm, qn, qd, qh, qc, qw, qk, qu, xi, xt, rfl, -, ⟨e0, e1, e2, e3, e4, e5, e6, e7, e8, e9⟩, e10⟩ := hS
  have hu : At G ow h1 LX8 qu stX8 := hE (.inl (LX8, qu, stX8)) (by simp)
  have hk : At G ow h1 LX4 qk stX4 := hE (.inl (LX4, qk, stX4)) (by simp)
  have hw : At G ow h1 LX9 qw stX9 := hE (.inl (LX9, qw, stX9)) (by simp)
  have hc : At G ow h1 LX0 qc stX0 := hE (.inl (LX0, qc, stX0)) (by simp)
  have ht : C1 ow h1 xt (aQ G 5 4 (fun _ => none)) := hE (.inr (xt, aQ G 5 4 (fun _ => none))) (by simp)
  have hi : C1 ow h1 xi (aQ G 4 3 (fun _ => none)) := hE (.inr (xi, aQ G 4 3 (fun _ => none))) (by simp)
  have hh : At G ow h1 LX1 qh os0 := hE (.inl (LX1, qh, os0)) (by simp)
  have hh1 : C1 ow h1 (qh 1) (aQ G 4 20 (fun _ => none)) := hE (.inr (qh 1, aQ G 4 20 (fun _ => none))) (by simp)
  have hh0 : C1 ow h1 (qh 0) (aQ G 4 20 (fun _ => none)) := hE (.inr (qh 0, aQ G 4 20 (fun _ => none))) (by simp)
  have hd : At G ow h1 LX10 qd stX10 := hE (.inl (LX10, qd, stX10)) (by simp)
  have hn : At G ow h1 LX10 qn stX10 := hE (.inl (LX10, qn, stX10)) (by simp)
  have hr : At G ow h1 LX5 qr stX5 := hE (.inl (LX5, qr, stX5)) (by simp)
  have hmk : At G ow h1 LX3 qm x := hE (.inl (LX3, qm, x)) (by simp)
  simp only [List.pairwise_cons] at hap
  have d1 : qh 0 ≠ qh 1 := fun z => hap.2.2.2.2.2.2.2.1 (.inr (qh 0, aQ G 4 20 (fun _ => none))) (by simp) (qh 1) rfl z
  have d2 : qd 5 ≠ qn 5 := fun z => hap.2.2.2.2.2.2.2.2.2.1 (.inl (LX10, qn, stX10)) (by simp) (qd 5) ⟨5, Nat.le_refl _, rfl, rfl⟩ ⟨5, Nat.le_refl _, rfl, z.symm⟩
  refine ⟨ow, _, q, hq, ⟨qn, qd, qh, _, xi, xt, fun _ => none, fun _ => none, qr, qm, qc, qw, qk, qu, stX5, x, stX0, stX9, stX4, stX8, ⟨os0, stX10, stX10, fun _ => none, fun _ => none, [], [], hA, hn, cw_0, hd, ⟨⟨os0, hh, rfl, rfl⟩, ⟨hh0, fun i a z => absurd z (by simp), fun i j a z => absurd z (by simp)⟩, ⟨hh1, fun i a z => absurd z (by simp), fun i j a z => absurd z (by simp)⟩, fun i y z => absurd z (by simp), fun i y z => absurd z (by simp), d1, fun i j a z => absurd z (by simp), Nat.zero_le _⟩, ⟨rfl, fun k b w z => absurd z (by simp)⟩, ⟨rfl, fun k b w z => absurd z (by simp)⟩, fun j => ⟨by simp, by simp, by simp, by simp⟩, ⟨e1, e2, e3, d2⟩, rfl⟩, ⟨e4, ⟨hi, fun i a z => absurd z (by simp), fun i j a z => absurd z (by simp)⟩, ⟨fun j _ => rfl, fun j a z => absurd z (by simp)⟩, fun j a z => absurd z (by simp)⟩, ⟨e5, ⟨ht, fun i a z => absurd z (by simp), fun i j a z => absurd z (by simp)⟩, ⟨fun j _ => rfl, fun j a z => absurd z (by simp)⟩⟩, ⟨hr, hmk, e0, e10, rdr_0, mkr_0 hm⟩, ⟨hc, hw, hk, hu, e6, e7, e8, e9⟩, rfl⟩, fun r hF => ?_⟩
  rcases hF with ((z | z | z | ⟨j, z⟩ | ⟨j, z⟩) | z | z) | z | z | ⟨j, z⟩ | z | ⟨j, z⟩ | z | z | z | z | z | z
  · rw [z, (hh.2 4 (Nat.le_refl _) rfl).1]; exact Option.some_ne_none _
  · rw [z, hh0.1]; exact Option.some_ne_none _
  · rw [z, hh1.1]; exact Option.some_ne_none _
  · exact absurd z (by simp)
  · exact absurd z (by simp)
  · rw [z, (hn.2 5 (Nat.le_refl _) rfl).1]; exact Option.some_ne_none _
  · rw [z, (hd.2 5 (Nat.le_refl _) rfl).1]; exact Option.some_ne_none _
  · rw [z, (hA.2 10 (Nat.le_refl _) rfl).1]; exact Option.some_ne_none _
  · rw [z, hi.1]; exact Option.some_ne_none _
  · exact absurd z (by simp)
  · rw [z, ht.1]; exact Option.some_ne_none _
  · exact absurd z (by simp)
  · rw [z, (hr.2 10 (Nat.le_refl _) rfl).1]; exact Option.some_ne_none _
  · rw [z, (hmk.2 3 (Nat.le_refl _) rfl).1]; exact Option.some_ne_none _
  · rw [z, (hc.2 11 (Nat.le_refl _) rfl).1]; exact Option.some_ne_none _
  · rw [z, (hw.2 7 (Nat.le_refl _) rfl).1]; exact Option.some_ne_none _
  · rw [z, (hk.2 3 (Nat.le_refl _) rfl).1]; exact Option.some_ne_none _
  · rw [z, (hu.2 15 (Nat.le_refl _) rfl).1]; exact Option.some_ne_none _
