theorem Wany.neAt {G : mG} {ow : Nat → Nat} {m : mM} {a : Nat} (h : Wany G ow m a) {L : LY} {q : Nat → Nat} {st : OS} (hA : At G ow m L q st) (hn : LX10.1 ≠ L.1) : a ≠ q L.2.1 := by
  obtain ⟨q1, s1, h1, h2⟩ := h
  rw [← h1]
  exact h2.ne hA hn
theorem Row.fr {G : mG} {ow ow' : Nat → Nat} {m m' : mM} {n r : Nat} {f : Nat → Option Nat} {S : Nat → Prop} (h : Row G ow m n r f) (hF : Fr S ow m ow' m') (h1 : ¬ S r) (h2 : ∀ i a, f i = some a → ¬ S a) : Row G ow' m' n r f :=
  ⟨hF.c1 h1 h.1, fun i a hi => (h.2.1 i a hi).fr hF (h2 i a hi), h.2.2⟩
theorem Holds.fr {G : mG} {ow ow' : Nat → Nat} {m m' : mM} {f : Nat → Option Nat} {ys : List OS} {S : Nat → Prop} (h : Holds G ow m f ys) (hF : Fr S ow m ow' m') (h2 : ∀ i a, f i = some a → ¬ S a) : Holds G ow' m' f ys := fun i y hy => by
  obtain ⟨a, ha, hw⟩ := h i y hy
  exact ⟨a, ha, hw.fr hF (h2 i a ha)⟩
/-- what stays for objects and cells that are not of S -/
def FrA (G : mG) (S : Nat → Prop) (ow : Nat → Nat) (m : mM) (ow' : Nat → Nat) (m' : mM) : Prop :=
  (∀ (L : LY) (q : Nat → Nat) (st : OS), ¬ S (q L.2.1) → At G ow m L q st → At G ow' m' L q st) ∧ (∀ (a : Nat) (e : va_E), ¬ S a → C1 ow m a e → C1 ow' m' a e) ∧ ∀ a, m a ≠ none → m' a ≠ none
theorem Fr.A {G : mG} {S : Nat → Prop} {ow ow' : Nat → Nat} {m m' : mM} (h : Fr S ow m ow' m') : FrA G S ow m ow' m' :=
  ⟨fun _ _ _ hn hA => h.at hn hA, fun _ _ hn hC => h.c1 hn hC, fun a ha => by
    obtain ⟨e, he⟩ := Option.ne_none_iff_exists'.mp ha
    exact (h a e he).2.2⟩
theorem FrA.rf {G : mG} {S : Nat → Prop} {ow : Nat → Nat} {m : mM} : FrA G S ow m ow m := ⟨fun _ _ _ _ h => h, fun _ _ _ h => h, fun _ h => h⟩
theorem FrA.mono {G : mG} {S T : Nat → Prop} {ow ow' : Nat → Nat} {m m' : mM} (h : FrA G S ow m ow' m') (k : ∀ a, S a → T a) : FrA G T ow m ow' m' :=
  ⟨fun L q st hn hA => h.1 L q st (fun z => hn (k _ z)) hA, fun a e hn hC => h.2.1 a e (fun z => hn (k _ z)) hC, h.2.2⟩
theorem FrA.tr {G : mG} {S T : Nat → Prop} {ow ow1 ow2 : Nat → Nat} {m m1 m2 : mM} (h : FrA G S ow m ow1 m1) (k : FrA G T ow1 m1 ow2 m2) (hT : ∀ a, T a → S a ∨ m a = none) : FrA G S ow m ow2 m2 :=
  ⟨fun L q st hn hA => k.1 L q st (fun z => (hT _ z).elim hn (fun z => by have := hA.root; rw [z] at this; cases this)) (h.1 L q st hn hA),
    fun a e hn hC => k.2.1 a e (fun z => (hT _ z).elim hn (fun z => by have := hC.1; rw [z] at this; cases this)) (h.2.1 a e hn hC), fun a ha => k.2.2 a (h.2.2 a ha)⟩
theorem FrA.wat {G : mG} {S : Nat → Prop} {ow ow' : Nat → Nat} {m m' : mM} {a : Nat} {y : OS} (h : FrA G S ow m ow' m') (hn : ¬ S a) (hw : Wat G ow m a y) : Wat G ow' m' a y := by
  obtain ⟨q, st, h1, h2, h3⟩ := hw
  exact ⟨q, st, h1, h.1 _ _ _ (by show ¬ S (q 5); rw [h1]; exact hn) h2, h3⟩
theorem FrA.wany {G : mG} {S : Nat → Prop} {ow ow' : Nat → Nat} {m m' : mM} {a : Nat} (h : FrA G S ow m ow' m') (hn : ¬ S a) (hw : Wany G ow m a) : Wany G ow' m' a := by
  obtain ⟨q, st, h1, h2⟩ := hw
  exact ⟨q, st, h1, h.1 _ _ _ (by show ¬ S (q 5); rw [h1]; exact hn) h2⟩
theorem Row.frA {G : mG} {ow ow' : Nat → Nat} {m m' : mM} {n r : Nat} {f : Nat → Option Nat} {S : Nat → Prop} (h : Row G ow m n r f) (hF : FrA G S ow m ow' m') (h1 : ¬ S r) (h2 : ∀ i a, f i = some a → ¬ S a) : Row G ow' m' n r f :=
  ⟨hF.2.1 _ _ h1 h.1, fun i a hi => hF.wany (h2 i a hi) (h.2.1 i a hi), h.2.2⟩
theorem Holds.frA {G : mG} {ow ow' : Nat → Nat} {m m' : mM} {f : Nat → Option Nat} {ys : List OS} {S : Nat → Prop} (h : Holds G ow m f ys) (hF : FrA G S ow m ow' m') (h2 : ∀ i a, f i = some a → ¬ S a) : Holds G ow' m' f ys := fun i y hy => by
  obtain ⟨a, ha, hw⟩ := h i y hy
  exact ⟨a, ha, hF.wat (h2 i a ha) hw⟩
/-- what an act leaves, the History's places and S aside -/
def HP (G : mG) (S : Nat → Prop) (ow : Nat → Nat) (m : mM) (qh : Nat → Nat) (fb fa : Nat → Option Nat) (ow' : Nat → Nat) (m' : mM) (fb' fa' : Nat → Option Nat) : Prop :=
  FrA G (fun r => HR qh fb fa r ∨ S r) ow m ow' m' ∧ (∀ a, HR qh fb' fa' a → HR qh fb fa a ∨ m a = none)
theorem HP.tr {G : mG} {S : Nat → Prop} {ow ow1 ow2 : Nat → Nat} {m m1 m2 : mM} {qh : Nat → Nat} {fb fa fb1 fa1 fb2 fa2 : Nat → Option Nat} (h : HP G S ow m qh fb fa ow1 m1 fb1 fa1) (k : HP G S ow1 m1 qh fb1 fa1 ow2 m2 fb2 fa2) : HP G S ow m qh fb fa ow2 m2 fb2 fa2 := by
  refine ⟨h.1.tr k.1 (fun a z => ?_), fun a ha => ?_⟩
  · rcases z with z | z
    · rcases h.2 a z with y | y
      · exact Or.inl (Or.inl y)
      · exact Or.inr y
    · exact Or.inl (Or.inr z)
  · rcases k.2 a ha with z | z
    · exact h.2 a z
    · right
      cases hm : m a with
      | none => rfl
      | some e => exact absurd z (h.1.2.2 a (by rw [hm]; exact Option.some_ne_none _))
theorem HP.mono {G : mG} {S T : Nat → Prop} {ow ow' : Nat → Nat} {m m' : mM} {qh : Nat → Nat} {fb fa fb' fa' : Nat → Option Nat} (h : HP G S ow m qh fb fa ow' m' fb' fa') (k : ∀ a, S a → T a) : HP G T ow m qh fb fa ow' m' fb' fa' :=
  ⟨h.1.mono (fun a z => z.elim Or.inl (fun z => Or.inr (k a z))), h.2⟩
/-- the History stays when its places do -/
theorem Hst.frA {G : mG} {S : Nat → Prop} {ow ow' : Nat → Nat} {m m' : mM} {qh : Nat → Nat} {fb fa : Nat → Option Nat} {bs as : List OS} (h : Hst G ow m qh fb fa bs as) (hF : FrA G S ow m ow' m') (hn : ∀ r, HR qh fb fa r → ¬ S r) : Hst G ow' m' qh fb fa bs as := by
  obtain ⟨⟨sth, hh, hb1, ha1⟩, hRb, hRa, hHb, hHa, hne, hdis, hle⟩ := h
  exact ⟨⟨sth, hF.1 _ _ _ (hn _ (Or.inl rfl)) hh, hb1, ha1⟩, hRb.frA hF (hn _ (Or.inr (Or.inl rfl))) (fun i a z => hn _ (Or.inr (Or.inr (Or.inr (Or.inl ⟨i, z⟩))))), hRa.frA hF (hn _ (Or.inr (Or.inr (Or.inl rfl)))) (fun i a z => hn _ (Or.inr (Or.inr (Or.inr (Or.inr ⟨i, z⟩))))), hHb.frA hF (fun i a z => hn _ (Or.inr (Or.inr (Or.inr (Or.inl ⟨i, z⟩))))), hHa.frA hF (fun i a z => hn _ (Or.inr (Or.inr (Or.inr (Or.inr ⟨i, z⟩))))), hne, hdis, hle⟩

set_option maxHeartbeats 4000000 in
set_option maxRecDepth 100000 in
theorem w_X1_keep_60 {p : Program} {l : Launch} {e : Env} {R : Room} {s : State} {m9 : MethodId} {args : Array Value} {below : List Frame} {meth : Method} {c : Code} {cells slots : Nat} {Q : State → Prop} {G : mG} {ow : Nat → Nat} {m : mM} {qh qw : Nat → Nat} {sw : OS} {fb fa : Nat → Option Nat} {bs as : List OS} (X : mX G p m9 c cX1_keep 4 s args RX1) (hw : At G ow m LX10 qw sw) (hS : Hst G ow m qh fb fa bs as) (hlen : bs.length < 20) (hnb : ∀ j, fb j ≠ some (qw 5)) (hR : 3 ≤ R.frames ∧ 84 ≤ R.locals ∧ cells + 4 ≤ R.cells ∧ slots + 197 ≤ R.slots)
    (K : ∀ (m3 : mM) (H : Heap) (locs : List Loc) (ls : Array Slot), (∃ ow1 fb1, Hst G ow1 m3 qh fb1 fa (bs ++ [sw]) [] ∧ HP G (fun _ => False) ow m qh fb fa ow1 m3 fb1 fa) → mH G m3 s.heap H locs → lv_has ls 4 [] → W p l e R s m9 args below meth c H locs (cells + 4) (slots + 197) Q (F0 m9 87 ls [])) :
    ∀ (H : Heap) (locs : List Loc) (ls : Array Slot), mH G m s.heap H locs → lv_has ls 4 [(0, .ref (qh 4)), (1, .ref (qw 5))] → W p l e R s m9 args below meth c H locs cells slots Q (F0 m9 60 ls []) := by
  intro H locs ls hH hl
  obtain ⟨⟨sth, hh, hb1, ha1⟩, hRb, hRa, hHb, hHa, hne, hdis, hle⟩ := hS
  refine lv_aload_n X.x X.b (dk DX1_keep_0 36 rfl) rfl (lv_at hl 0 rfl) ?_
  refine ag_getR (t := 4) OX1 X hh hH 0 (by decide) rfl kF_X1_11 (dk DX1_keep_0 37 rfl) ?_
  refine lv_aload_n X.x X.b (dk DX1_keep_0 38 rfl) rfl (lv_at hl 0 rfl) ?_
  refine ag_getI OX1 X hh hH 2 (by decide) rfl kF_X1_18 (dk DX1_keep_0 39 rfl) ?_
  rw [hb1]
  refine lv_aload_n X.x X.b (dk DX1_keep_0 40 rfl) rfl (lv_at hl 1 rfl) ?_
  refine mr_cv hH (mr_runS (As := [.ref (qh 0), .int (nI bs.length), .ref (qw 5)]) (rest := []) X hH (c_storeA hw hRb hnb hlen) kM_X1_25 kT_X1_store kN_X1 kC_X1_store hd_X1_store ⟨hR.1, hR.2.1⟩ rfl hl.1 (Nat.le_of_ble_eq_true rfl) (dk DX1_keep_0 41 rfl) ⟨hR.2.2.1, hR.2.2.2⟩) (fun m1 H locs hp hH => ?_)
  obtain ⟨ow1, fb1, hRb1, hf1, ⟨an, han, hwn, hor⟩, hF1⟩ := hp
  have hh1 : At G ow1 m1 LX1 qh sth := hF1.at (fun z => z.elim (fun z => hh.neC hRb.1 z) (fun z => (hRb.2.1 _ _ z).neAt hh (by decide) rfl)) hh
  refine lv_aload_n X.x X.b (dk DX1_keep_0 42 rfl) rfl (lv_at hl 0 rfl) ?_
  refine lv_dup X.x X.b (dk DX1_keep_0 43 rfl) rfl ?_
  refine ag_getI OX1 X hh1 hH 2 (by decide) rfl kF_X1_18 (dk DX1_keep_0 44 rfl) ?_
  rw [hb1]
  refine lv_iconst (v := 1) X.x X.b (dk DX1_keep_0 45 rfl) (by decide) ?_
  refine lv_iadd X.x X.b (dk DX1_keep_0 46 rfl) ?_
  refine ag_putI OX1 X hh1 hH 2 (by decide) rfl kF_X1_18 rfl rfl rfl (dk DX1_keep_0 47 rfl) (fun H locs hH => ?_)
  obtain ⟨m2, hm2⟩ : ∃ z, z = oset LX1 G qh (oI sth 2 (nI bs.length + 1)) m1 := ⟨_, rfl⟩
  rw [← hm2] at hH
  have hh2 : At G ow1 m2 LX1 qh (oI sth 2 (nI bs.length + 1)) := by rw [hm2]; exact hh1.self
  have hF2 : Fr (fun r => r = qh 4) ow1 m1 ow1 m2 := by rw [hm2]; exact hh1.fr
  refine lv_aload_n X.x X.b (dk DX1_keep_0 48 rfl) rfl (lv_at hl 0 rfl) ?_
  refine lv_iconst (v := 0) X.x X.b (dk DX1_keep_0 49 rfl) (by decide) ?_
  refine ag_putI OX1 X hh2 hH 3 (by decide) rfl kF_X1_22 rfl rfl rfl (dk DX1_keep_0 50 rfl) (fun H locs hH => ?_)
  obtain ⟨m3, hm3⟩ : ∃ z, z = oset LX1 G qh (oI (oI sth 2 (nI bs.length + 1)) 3 0) m2 := ⟨_, rfl⟩
  rw [← hm3] at hH
  have hh3 : At G ow1 m3 LX1 qh (oI (oI sth 2 (nI bs.length + 1)) 3 0) := by rw [hm3]; exact hh2.self
  have hF3 : Fr (fun r => r = qh 4) ow1 m2 ow1 m3 := by rw [hm3]; exact hh2.fr
  have hF23 := hF2.tr hF3
  refine W.widen (k := cells + 4) (n := slots + 197) (Nat.le_refl _) (Nat.le_refl _) (K m3 H locs ls ⟨ow1, fb1, ?_, ?_, ?_⟩ hH (lv_sub hl [] rfl))
  · refine ⟨⟨_, hh3, ?_, rfl⟩, hRb1.fr hF23 (fun z => hh1.neC hRb1.1 z.symm) (fun i a hi z => (hRb1.2.1 i a hi).neAt hh1 (by decide) z), (hRa.fr hF1 ?_ ?_).fr hF23 (fun z => hh.neC hRa.1 z.symm) (fun i a hi z => (hRa.2.1 i a hi).neAt hh (by decide) z), ?_, fun i y hy => by simp at hy, hne, ?_, ?_⟩
    · show nI bs.length + 1 = nI (bs ++ [sw]).length
      rw [List.length_append, nI_1]; rfl
    · exact fun z => z.elim (fun z => hne z.symm) (fun z => (hRb.2.1 _ _ z).neC hRa.1 rfl)
    · exact fun i a hi z => z.elim (fun z => (hRa.2.1 i a hi).neC hRb.1 z) (fun z => hdis _ i a z hi)
    · intro i y hy
      rcases Nat.lt_or_ge i bs.length with h | h
      · rw [List.getElem?_append_left h] at hy
        obtain ⟨a, ha, hwa⟩ := hHb i y hy
        refine ⟨a, by rw [hf1 i (by omega)]; exact ha, (hwa.fr hF1 (fun z => z.elim (fun z => hwa.any.neC hRb.1 z) (fun z => ?_))).fr hF23 (fun z => ?_)⟩
        · have := hRb.2.2 _ _ _ z ha; omega
        · exact hwa.any.neAt hh (by decide) z
      · rw [List.getElem?_append_right h] at hy
        have hi : i = bs.length := by
          have := (List.getElem?_eq_some_iff.mp hy).1; simp at this; omega
        subst hi
        simp at hy
        subst hy
        exact ⟨an, han, hwn.fr hF23 (fun z => hwn.any.neAt hh1 (by decide) z)⟩
    · intro i j a hi hj
      by_cases hib : i = bs.length
      · subst hib
        rw [han] at hi
        cases hi
        rcases hor with z | ⟨-, z⟩
        · exact hdis _ j _ z hj
        · exact (hRa.2.1 j _ hj).ne0 z
      · rw [hf1 i hib] at hi
        exact hdis i j a hi hj
    · simp only [List.length_append, List.length_cons, List.length_nil]; omega
  · refine Fr.A (Fr.mono (S := fun r => HR qh fb fa r) ((hF1.mono (fun r z => z.elim (fun z => Or.inr (Or.inl z)) (fun z => Or.inr (Or.inr (Or.inr (Or.inl ⟨_, z⟩)))))).tr (hF23.mono (fun r z => Or.inl z))) (fun _ z => Or.inl z))
  · intro a ha
    rcases ha with z | z | z | ⟨i, z⟩ | z
    · exact Or.inl (Or.inl z)
    · exact Or.inl (Or.inr (Or.inl z))
    · exact Or.inl (Or.inr (Or.inr (Or.inl z)))
    · by_cases hib : i = bs.length
      · subst hib
        rw [han] at z
        cases z
        rcases hor with z | z
        · exact Or.inl (Or.inr (Or.inr (Or.inr (Or.inl ⟨_, z⟩))))
        · exact Or.inr z.2
      · rw [hf1 i hib] at z
        exact Or.inl (Or.inr (Or.inr (Or.inr (Or.inl ⟨_, z⟩))))
    · exact Or.inl (Or.inr (Or.inr (Or.inr (Or.inr z))))
