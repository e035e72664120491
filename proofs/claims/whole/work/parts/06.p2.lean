/-! SEVERAL OBJECTS side by side, in any order -/
abbrev OE : Type := LY × (Nat → Nat) × OS
def osets (G : mG) (l : List OE) (h : mM) : mM := l.foldr (fun x m => oset x.1 G x.2.1 x.2.2 m) h
def okey (x : OE) : LY × (Nat → Nat) := (x.1, x.2.1)
/-- objects apart from one another -/
def oap (ks : List (LY × (Nat → Nat))) : Prop := ∀ (i j : Nat) (x y : LY × (Nat → Nat)), ks[i]? = some x → ks[j]? = some y → i ≠ j → odis x.1 x.2 y.1 y.2
theorem oap_sub {ks ks' : List (LY × (Nat → Nat))} (h : oap ks) (is : List Nat) (hs : is.map (fun i => ks[i]?) = ks'.map some) (hn : va_nd is = true) : oap ks' := by
  have key : ∀ (k : Nat) (q : LY × (Nat → Nat)), ks'[k]? = some q → ∃ i, is[k]? = some i ∧ ks[i]? = some q := by
    intro k q hk
    have h1 : (is.map (fun i => ks[i]?))[k]? = some (some q) := by rw [hs, List.getElem?_map, hk]; rfl
    rw [List.getElem?_map] at h1
    cases hi : is[k]? with
    | none => rw [hi] at h1; cases h1
    | some i => rw [hi] at h1; exact ⟨i, rfl, Option.some.inj h1⟩
  intro i j x y hx hy hij
  obtain ⟨a, h1, h2⟩ := key i x hx
  obtain ⟨b, h3, h4⟩ := key j y hy
  refine h a b x y h2 h4 (fun z => hij ?_)
  subst z
  exact va_nd_inj is hn i j a h1 h3
theorem osets_hit {G : mG} {h : mM} {a : Nat} : ∀ {l : List OE}, oap (l.map okey) → ∀ {i : Nat} {x : OE} {k : Nat}, l[i]? = some x → oidx x.1 x.2.1 a = some k → osets G l h a = some (ocell x.1 G x.2.1 x.2.2 k)
  | [], _, i, x, k, hx, _ => by simp at hx
  | y :: l, ha, i, x, k, hx, hk => by
    cases i with
    | zero =>
      cases hx
      show oset _ G _ _ _ a = _
      simp only [oset, hk]
    | succ i =>
      have hx' : l[i]? = some x := by simpa using hx
      have hy : oidx y.1 y.2.1 a = none := by
        cases hf : oidx y.1 y.2.1 a with
        | none => rfl
        | some m =>
          obtain ⟨a1, a2, a3⟩ := oidx_some hf
          obtain ⟨b1, b2, b3⟩ := oidx_some hk
          exact absurd (a3.trans b3.symm) (ha 0 (i + 1) (okey y) (okey x) (by simp) (by simp [hx']) (by omega) m k a1 b1 a2 b2)
      show oset _ G _ _ (osets G l h) a = _
      simp only [oset, hy]
      refine osets_hit (fun i j x y hx hy hij => ha (i + 1) (j + 1) x y (by simpa using hx) (by simpa using hy) (by omega)) hx' hk
theorem osets_miss {G : mG} {h : mM} {a : Nat} : ∀ {l : List OE}, (∀ x ∈ l, oidx x.1 x.2.1 a = none) → osets G l h a = h a
  | [], _ => rfl
  | y :: l, hn => by
    show oset _ G _ _ (osets G l h) a = _
    simp only [oset, hn y List.mem_cons_self]
    exact osets_miss (fun x hx => hn x (List.mem_cons_of_mem _ hx))
theorem osets_perm {G : mG} {h : mM} {l1 l2 : List OE} (ha : oap (l1.map okey)) (is js : List Nat) (h1 : is.map (fun i => l1[i]?) = l2.map some) (h2 : js.map (fun i => l2[i]?) = l1.map some) (hn : va_nd is = true) : osets G l2 h = osets G l1 h := by
  have ha2 : oap (l2.map okey) := by
    refine oap_sub ha is ?_ hn
    have e : is.map (fun i => (l1.map okey)[i]?) = (is.map (fun i => l1[i]?)).map (fun o => o.map okey) := by
      rw [List.map_map]
      apply List.map_congr_left
      intro i _
      simp
    rw [e, h1, List.map_map, List.map_map]
    rfl
  have mem1 : ∀ x, x ∈ l1 → x ∈ l2 := by
    intro x hx
    have : some x ∈ l1.map some := List.mem_map.mpr ⟨x, hx, rfl⟩
    rw [← h2] at this
    obtain ⟨i, -, hi⟩ := List.mem_map.mp this
    exact List.mem_of_getElem? hi
  have mem2 : ∀ x, x ∈ l2 → x ∈ l1 := by
    intro x hx
    have : some x ∈ l2.map some := List.mem_map.mpr ⟨x, hx, rfl⟩
    rw [← h1] at this
    obtain ⟨i, -, hi⟩ := List.mem_map.mp this
    exact List.mem_of_getElem? hi
  funext a
  by_cases hc : ∃ x ∈ l1, ∃ k, oidx x.1 x.2.1 a = some k
  · obtain ⟨x, hx, k, hk⟩ := hc
    obtain ⟨i, hi⟩ := List.getElem?_of_mem hx
    obtain ⟨j, hj⟩ := List.getElem?_of_mem (mem1 x hx)
    rw [osets_hit ha hi hk, osets_hit ha2 hj hk]
  · have hno : ∀ x ∈ l1, oidx x.1 x.2.1 a = none := by
      intro x hx
      cases hf : oidx x.1 x.2.1 a with
      | none => rfl
      | some k => exact absurd ⟨x, hx, k, hf⟩ hc
    rw [osets_miss hno, osets_miss (fun x hx => hno x (mem2 x hx))]
theorem mH_perm {G : mG} {h : mM} {H0 H : Heap} {locs : List Loc} {l1 l2 : List OE} (ha : oap (l1.map okey)) (is js : List Nat) (h1 : is.map (fun i => l1[i]?) = l2.map some) (h2 : js.map (fun i => l2[i]?) = l1.map some) (hn : va_nd is = true) (hH : mH G (osets G l1 h) H0 H locs) : mH G (osets G l2 h) H0 H locs := by
  rw [osets_perm ha is js h1 h2 hn]; exact hH
theorem mH_unperm {G : mG} {h : mM} {H0 H : Heap} {locs : List Loc} {l1 l2 : List OE} (ha : oap (l1.map okey)) (is js : List Nat) (h1 : is.map (fun i => l1[i]?) = l2.map some) (h2 : js.map (fun i => l2[i]?) = l1.map some) (hn : va_nd is = true) (hH : mH G (osets G l2 h) H0 H locs) : mH G (osets G l1 h) H0 H locs := by
  rw [← osets_perm ha is js h1 h2 hn]; exact hH
theorem osets_cell {G : mG} {h : mM} {l : List OE} (ha : oap (l.map okey)) (i : Nat) {x : OE} (hx : l[i]? = some x) (hq : oinj x.1 x.2.1) {k : Nat} (hk : k ≤ x.1.2.1) (hh : ohas x.1 k = true) : osets G l h (x.2.1 k) = some (ocell x.1 G x.2.1 x.2.2 k) := osets_hit ha hx (oidx_at hq hk hh)
def okc (sp dp n : Int32) (n0 n1 : Nat) : Bool := decide (¬ sp < 0 ∧ ¬ dp < 0 ∧ ¬ n < 0 ∧ sp.toNatClampNeg + n.toNatClampNeg ≤ n0 ∧ dp.toNatClampNeg + n.toNatClampNeg ≤ n1)
section MCO
variable {p : Program} {l : Launch} {e : Env} {R : Room} {s : State} {m : MethodId} {args : Array Value} {below : List Frame} {meth : Method} {c : Code} {H : Heap} {locs : List Loc} {cells slots : Nat} {Q : State → Prop}
variable {cc : ByteArray} {nL pc idx : Nat} {ls : Array Slot} {rest : List Value} {G : mG} {h : mM} {own : String} {a : Nat} {H0 : Heap}
theorem mr_copyl (X : mX G p m c cc nL s args own) (hls : ls.size = nL) (hH : mH G h H0 H locs) {a0 n0 n1 : Nat} {f g : Nat → Int64} (ha0 : h a0 = some (aJ G n0 f)) (ha1 : h a = some (aJ G n1 g)) {sp dp n : Int32} (hok : okc sp dp n n0 n1 = true) (kM : Cond.methodLink own idx arraycopyName ∈ GW) (kV : Cond.native arraycopyName ∈ GW) (kT : Cond.static arraycopyName ∈ GW) (kN : Cond.initialized "java/lang/System" ∈ GW)
    (hframes : 1 ≤ R.frames) (hlocals : (rest.map fun v => v.category).sum + (nativeFrameWords "java/lang/System" "arraycopy" 5 + 11) ≤ R.locals) (hdg : decode cc pc = .ok (.invokestatic idx, 3))
    (kk : ∀ (H1 : Heap) (locs1 : List Loc), mH G (va_up h a (some (aJ G n1 (va_cpy f g sp.toNatClampNeg dp.toNatClampNeg n.toNatClampNeg)))) H0 H1 locs1 → W p l e R s m args below meth c H1 locs1 cells slots Q (F0 m (pc + 3) ls rest)) : W p l e R s m args below meth c H locs cells slots Q (F0 m pc ls (.int n :: .int dp :: .ref a :: .int sp :: .ref a0 :: rest)) := by
  obtain ⟨h1, h2, h3, h4, h5⟩ := of_decide_eq_true hok
  have nn : ∀ z : Int32, ¬ z < 0 → z.toInt = (z.toNatClampNeg : Int) := by
    intro z hz
    have hz0 : (0 : Int) ≤ z.toInt := by
      have := Int32.not_lt.mp hz
      simpa using Int32.le_iff_toInt_le.mp this
    show z.toInt = ((z.toInt.toNat : Nat) : Int)
    omega
  intro T hT Y
  have hc0 : H[a0]? = some (vp_cell (G.2.1 1) (n0, .inr (.inl f))) := (hH.1 a0 _ ha0).1
  have hc1 : H[a]? = some (vp_cell (G.2.1 1) (n1, .inr (.inl g))) := (hH.1 a _ ha1).1
  obtain ⟨-, k0, hk0, cm0, hkk0⟩ := (X.2.1.2 1 _ rfl).1 n0 (fun j => .long (f j))
  obtain ⟨-, k1, hk1, cm1, hkk1⟩ := (X.2.1.2 1 _ rfl).1 n1 (fun j => .long (g j))
  obtain ⟨vm', X', step⟩ := Y.arraycopy X.x X.ow (X.ts _ kM) (X.ts _ kV) (X.ts _ kT) (X.ts _ kN) (src := a0) (dst := a) (cs := vp_cell (G.2.1 1) (n0, .inr (.inl f))) (cd := vp_cell (G.2.1 1) (n1, .inr (.inl g))) (srcPos := sp) (destPos := dp) (n := n) (by rw [hT]; exact hc0) (by rw [hT]; exact hc1)
    (fun _ h => by cases h) (fun _ h => by cases h) (fun h => by cases h) (fun h => by cases h) hk0 hk1 hkk0 hkk1 (by simp [refKind]) h1 h2 h3
    (by rw [nn sp h1, nn n h3]; show ¬ _ > ((arrV (G.2.1 1) n0 (fun j => .long (f j))).slots.size : Int); rw [arrV_size]; omega)
    (by rw [nn dp h2, nn n h3]; show ¬ _ > ((arrV (G.2.1 1) n1 (fun j => .long (g j))).slots.size : Int); rw [arrV_size]; omega)
    (fun vm₁ _ i hi => by
      have e : (vp_cell (G.2.1 1) (n0, .inr (.inl f))).slots.getD (sp.toNatClampNeg + i) .null = .long (f (sp.toNatClampNeg + i)) := by
        show (arrV (G.2.1 1) n0 (fun j => .long (f j))).slots.getD _ _ = _
        rw [Array.getD_eq_getD_getElem?, arrV_read _ _ (by omega)]
        rfl
      refine ⟨?_, ?_⟩
      · rw [e]
        rfl
      · rw [e]
        exact trivial)
    (g := F0 m pc ls (.int n :: .int dp :: .ref a :: .int sp :: .ref a0 :: rest)) rfl (by rw [X.1.2.2.1]; exact hls) (rest := rest) rfl (by rw [X.b]; exact hdg) hframes (by show 2 * 0 + _ + _ ≤ _; omega)
  have e1 : copied (vp_cell (G.2.1 1) (n0, .inr (.inl f))) (vp_cell (G.2.1 1) (n1, .inr (.inl g))) sp dp n = vp_cell (G.2.1 1) (n1, .inr (.inl (va_cpy f g sp.toNatClampNeg dp.toNatClampNeg n.toNatClampNeg))) := va_copied (fun z => .long z) (G.2.1 1) (G.2.1 1) f g h4
  rw [e1] at X' step
  have hl : a < H.size := (Array.getElem?_eq_some_iff.mp hc1).1
  have hheap : ((T.setVm vm').setCell a (vp_cell (G.2.1 1) (n1, .inr (.inl (va_cpy f g sp.toNatClampNeg dp.toNatClampNeg n.toNatClampNeg))))).heap = H.setIfInBounds a (vp_cell (G.2.1 1) (n1, .inr (.inl (va_cpy f g sp.toNatClampNeg dp.toNatClampNeg n.toNatClampNeg)))) := by rw [← hT]; rfl
  have oq : ∀ q : Nat, q ≠ a → (H.setIfInBounds a (vp_cell (G.2.1 1) (n1, .inr (.inl (va_cpy f g sp.toNatClampNeg dp.toNatClampNeg n.toNatClampNeg)))))[q]? = H[q]? := fun q hq => by simp [Array.getElem?_setIfInBounds, Ne.symm hq]
  have hp := hH.put (k := 0) ha1 (e := aJ G n1 (va_cpy f g sp.toNatClampNeg dp.toNatClampNeg n.toNatClampNeg)) (H1 := H.setIfInBounds a (vp_cell (G.2.1 1) (n1, .inr (.inl (va_cpy f g sp.toNatClampNeg dp.toNatClampNeg n.toNatClampNeg))))) (show (H.setIfInBounds a _)[a]? = some _ by simp [Array.getElem?_setIfInBounds, hl]) (by simp) oq
  obtain ⟨t, a1, b1⟩ := kk _ _ ⟨hp.1, ⟨hp.2.1.1, hp.2.1.2.1, fun q hq => by
      rcases List.mem_append.mp hq with h | h
      · exact hH.2.1.2.2 q h
      · obtain ⟨z, -, hz⟩ := List.mem_map.mp h
        rw [← hz]
        exact (hH.1 a _ ha1).2⟩, hp.2.2⟩ _ hheap X'
  exact ⟨t, step t a1, b1⟩
theorem og_copyl {L : LY} {q : Nat → Nat} {st : OS} (X : mX G p m c cc nL s args own) (hls : ls.size = nL) (hq : oinj L q) (hH : mH G (oset L G q st h) H0 H locs) (k : Nat) {a0 n0 n1 : Nat} {f : Nat → Int64} (hk : k < L.2.1) (hs : L.2.2 k = (3, n1)) (ha0 : oset L G q st h a0 = some (aJ G n0 f)) {sp dp n : Int32} (hok : okc sp dp n n0 n1 = true) (kM : Cond.methodLink own idx arraycopyName ∈ GW) (kV : Cond.native arraycopyName ∈ GW) (kT : Cond.static arraycopyName ∈ GW) (kN : Cond.initialized "java/lang/System" ∈ GW)
    (hframes : 1 ≤ R.frames) (hlocals : (rest.map fun v => v.category).sum + (nativeFrameWords "java/lang/System" "arraycopy" 5 + 11) ≤ R.locals) (hdg : decode cc pc = .ok (.invokestatic idx, 3))
    (kk : ∀ (H1 : Heap) (locs1 : List Loc), mH G (oset L G q (oB st k (va_cpy f (st.2.2.2 k) sp.toNatClampNeg dp.toNatClampNeg n.toNatClampNeg)) h) H0 H1 locs1 → W p l e R s m args below meth c H1 locs1 cells slots Q (F0 m (pc + 3) ls rest)) : W p l e R s m args below meth c H locs cells slots Q (F0 m pc ls (.int n :: .int dp :: .ref (q k) :: .int sp :: .ref a0 :: rest)) := by
  have hh := ohas_k hk hs (by decide) (by decide)
  refine mr_copyl X hls hH ha0 ((oset_at hq (Nat.le_of_lt hk) hh).trans (congrArg some (oc_k hk hs))) hok kM kV kT kN hframes hlocals hdg (fun H1 locs1 hH => kk H1 locs1 ?_)
  rw [oset_up hq (Nat.le_of_lt hk) hh (st' := oB st k (va_cpy f (st.2.2.2 k) sp.toNatClampNeg dp.toNatClampNeg n.toNatClampNeg)) (by rw [oc_k hk hs]; simp [oB, va_up]) (fun j _ _ hjk => by simp [ocell, ofs, oB, va_up, hjk])] at hH
  exact hH
end MCO
