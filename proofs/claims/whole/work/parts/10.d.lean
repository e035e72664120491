/-! what is laid apart may be laid in any order -/
def eap (a b : Ent) : Prop := ∀ y, ecell a y → ¬ ecell b y
theorem eap.symm {a b : Ent} (h : eap a b) : eap b a := fun y h1 h2 => h y h2 h1
theorem elay_in {G : mG} {e : Ent} {m : mM} {y : Nat} (h : ecell e y) : elay G e m y ≠ none := by
  cases e with
  | inl x =>
    obtain ⟨k, hk, hh, hy⟩ := h
    show oset x.1 G x.2.1 x.2.2 m y ≠ none
    simp only [oset]
    cases h1 : oidx x.1 x.2.1 y with
    | some j => exact Option.some_ne_none _
    | none =>
      have h2 := List.find?_eq_none.mp h1 k (List.mem_range.mpr (by omega))
      simp [hh, hy] at h2
  | inr c =>
    have : y = c.1 := h.symm
    simp [elay, va_up, this]
theorem lay_in {G : mG} {y : Nat} {h : mM} : ∀ es : List Ent, (∃ b ∈ es, ecell b y) → lay G es h y ≠ none := by
  intro es
  induction es with
  | nil => intro ⟨b, hb, _⟩; cases hb
  | cons e es ih =>
    intro hb
    show elay G e (lay G es h) y ≠ none
    by_cases z : ecell e y
    · exact elay_in z
    · rw [elay_out z]
      obtain ⟨b, hb, hy⟩ := hb
      rcases List.mem_cons.mp hb with w | w
      · subst w; exact absurd hy z
      · exact ih ⟨b, w, hy⟩
theorem lay_out {G : mG} {y : Nat} {h : mM} : ∀ es : List Ent, (∀ b ∈ es, ¬ ecell b y) → lay G es h y = h y := by
  intro es
  induction es with
  | nil => exact fun _ => rfl
  | cons e es ih =>
    intro hb
    show elay G e (lay G es h) y = h y
    rw [elay_out (hb e List.mem_cons_self)]
    exact ih fun b w => hb b (List.mem_cons_of_mem _ w)
theorem freshs_apart {G : mG} {h : mM} : ∀ es : List Ent, freshs G es h → es.Pairwise eap := by
  intro es
  induction es with
  | nil => exact fun _ => List.Pairwise.nil
  | cons e es ih =>
    intro hf
    exact List.Pairwise.cons (fun b hb y h1 h2 => lay_in es ⟨b, hb, h2⟩ (hf.2 y h1)) (ih hf.1)
theorem freshs_none {G : mG} {h : mM} : ∀ es : List Ent, freshs G es h → ∀ b ∈ es, fresh1 b h := by
  intro es
  induction es with
  | nil => intro _ b hb; cases hb
  | cons e es ih =>
    intro hf b hb
    rcases List.mem_cons.mp hb with w | w
    · subst w
      intro y hy
      have h1 := hf.2 y hy
      have h2 : ∀ b' ∈ es, ¬ ecell b' y := fun b' hb' z => lay_in es ⟨b', hb', z⟩ h1
      rw [lay_out es h2] at h1
      exact h1
    · exact ih hf.1 b w
theorem elay_comm {G : mG} {a b : Ent} {m : mM} (h : eap a b) : elay G a (elay G b m) = elay G b (elay G a m) := by
  cases b with
  | inr c =>
    exact elay_up (fun z => h c.1 z rfl)
  | inl x =>
    cases a with
    | inr c => exact (elay_up (e := .inl x) (fun z => h c.1 rfl z)).symm
    | inl w => exact oset_comm fun i j hi hj h1 h2 z => h _ ⟨i, hi, h1, rfl⟩ ⟨j, hj, h2, z.symm⟩
theorem lay_perm {G : mG} {h : mM} {es es' : List Ent} (p : es.Perm es') : es.Pairwise eap → lay G es h = lay G es' h ∧ es'.Pairwise eap := by
  induction p with
  | nil => exact fun _ => ⟨rfl, List.Pairwise.nil⟩
  | cons a p ih =>
    intro hp
    obtain ⟨h1, h2⟩ := List.pairwise_cons.mp hp
    obtain ⟨i1, i2⟩ := ih h2
    exact ⟨congrArg (elay G a) i1, List.pairwise_cons.mpr ⟨fun b hb => h1 b (p.mem_iff.mpr hb), i2⟩⟩
  | swap a b l =>
    intro hp
    obtain ⟨h1, h2⟩ := List.pairwise_cons.mp hp
    obtain ⟨h3, h4⟩ := List.pairwise_cons.mp h2
    exact ⟨elay_comm (h1 a List.mem_cons_self), List.pairwise_cons.mpr ⟨fun c hc => by
      rcases List.mem_cons.mp hc with w | w
      · subst w; exact (h1 a List.mem_cons_self).symm
      · exact h3 c w, List.pairwise_cons.mpr ⟨fun c hc => h1 c (List.mem_cons_of_mem _ hc), h4⟩⟩⟩
  | trans p1 p2 i1 i2 =>
    intro hp
    obtain ⟨a1, a2⟩ := i1 hp
    obtain ⟨b1, b2⟩ := i2 a2
    exact ⟨a1.trans b1, b2⟩
theorem lay_osets {G : mG} {l : List OE} {es : List Ent} {h : mM} : lay G (l.map Sum.inl ++ es) h = osets G l (lay G es h) := by
  rw [lay_app]
  induction l with
  | nil => rfl
  | cons x l ih =>
    show oset x.1 G x.2.1 x.2.2 (lay G (l.map Sum.inl) (lay G es h)) = _
    rw [ih]
    rfl
theorem oap_of {l : List OE} (hp : (l.map (Sum.inl : OE → Ent)).Pairwise eap) : oap (l.map okey) := by
  have key : ∀ (i j : Nat) (x y : OE), l[i]? = some x → l[j]? = some y → i < j → odis x.1 x.2.1 y.1 y.2.1 := by
    intro i j x y hx hy hij a b ha hb h1 h2 z
    have hi : i < (l.map (Sum.inl : OE → Ent)).length := by rw [List.length_map]; exact (List.getElem?_eq_some_iff.mp hx).1
    have hj : j < (l.map (Sum.inl : OE → Ent)).length := by rw [List.length_map]; exact (List.getElem?_eq_some_iff.mp hy).1
    have h3 := List.pairwise_iff_getElem.mp hp i j hi hj hij
    have e1 : (l.map (Sum.inl : OE → Ent))[i] = .inl x := by
      rw [List.getElem_map]; exact congrArg _ (List.getElem?_eq_some_iff.mp hx).2
    have e2 : (l.map (Sum.inl : OE → Ent))[j] = .inl y := by
      rw [List.getElem_map]; exact congrArg _ (List.getElem?_eq_some_iff.mp hy).2
    rw [e1, e2] at h3
    exact h3 _ ⟨a, ha, h1, rfl⟩ ⟨b, hb, h2, z.symm⟩
  intro i j x y hx hy hij
  rw [List.getElem?_map] at hx hy
  cases hx' : l[i]? with
  | none => rw [hx'] at hx; cases hx
  | some x' =>
    cases hy' : l[j]? with
    | none => rw [hy'] at hy; cases hy
    | some y' =>
      rw [hx'] at hx; rw [hy'] at hy
      cases hx; cases hy
      rcases Nat.lt_or_gt_of_ne hij with w | w
      · exact key i j _ _ hx' hy' w
      · exact (key j i _ _ hy' hx' w).symm
