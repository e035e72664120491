/-! objects that make objects -/
section MSB
variable {p : Program} {l : Launch} {e : Env} {R : Room} {s : State} {m : MethodId} {args : Array Value} {below : List Frame} {meth : Method} {c : Code} {H : Heap} {locs : List Loc} {cells slots : Nat} {Q : State → Prop}
variable {cc : ByteArray} {nL pc idx : Nat} {ls : Array Slot} {rest : List Value} {G : mG} {h : mM} {own : String} {a : Nat}
theorem mr_runI {y : MethodName} {cb : ByteArray} {mL n : Nat} {rm : Room} {As : List Value} {Qc : Array Value → State → Outcome → State → Prop} (X : mX G p m c cc nL s args own) (hH : mH G h s.heap H locs) (hM : cQ l G y cb mL none rm (.ref a :: As) h Qc) (k1 : Cond.methodLink own idx y ∈ GW) (k2 : Cond.instanceMethod y ∈ GW) (k3 : Cond.initialized y.cls ∈ GW) (k4 : Cond.code y cb mL none ∈ GW) (hy : y.name = "<init>") (hd : mHd y n) (hR : rm.frames + 1 ≤ R.frames ∧ 8 + (mL + 11) + rm.locals ≤ R.locals) (hn : As.length = n) (hls : ls.size = nL) (hw : (rest.map fun v => v.category).sum ≤ 8) (hdg : decode cc pc = .ok (.invokespecial idx, 3)) (hf : cells + rm.cells ≤ R.cells ∧ slots + rm.slots ≤ R.slots) :
    va_Run p l e R s m args below meth c H locs cells slots rm.cells rm.slots (F0 m pc ls (As.reverse ++ .ref a :: rest)) rest (Qc (Value.ref a :: As).toArray) (mA G) :=
  va_runI (n := n) X.1 hM ⟨callB_of n X.ts (gw_goodIn k4) rfl rfl rfl (X.ts _ k3) (X.ts _ k1) hd hR, hy, X.ts _ k2⟩ ⟨mPc_blind _, fun _ hU hW => mPc_at X hH hU hW⟩ rfl hn hls rfl (lv_room hw) hdg hf
end MSB
theorem oset_keep {L : LY} {G : mG} {q : Nat → Nat} {st : OS} {M : mM} (M' : mM) {y : Nat} (hy : M y ≠ none) (hn : ∀ k, k ≤ L.2.1 → ohas L k = true → M (q k) = none) : oset L G q st M' y = M' y := by
  simp only [oset]
  cases h1 : oidx L q y with
  | none => rfl
  | some k =>
    obtain ⟨h2, h3, h4⟩ := oidx_some h1
    exact absurd (h4 ▸ hn k h2 h3) hy
theorem oset_out {L : LY} {G : mG} {q : Nat → Nat} {st : OS} {h : mM} {y : Nat} (hn : ∀ k, k ≤ L.2.1 → ohas L k = true → q k ≠ y) : oset L G q st h y = h y := by
  simp only [oset]
  cases h1 : oidx L q y with
  | none => rfl
  | some k =>
    obtain ⟨h2, h3, h4⟩ := oidx_some h1
    exact absurd h4 (hn k h2 h3)
theorem oset_absorb {L : LY} {G : mG} {q : Nat → Nat} {st : OS} {h : mM} {x : Nat} {v : Option va_E} (hq : oinj L q) (hx : q L.2.1 = x) : oset L G q st (va_up h x v) = oset L G q st h := by
  funext y
  by_cases z : y = x
  · subst z
    rw [← hx, oset_at hq (Nat.le_refl _) ohas_N, oset_at hq (Nat.le_refl _) ohas_N]
  · simp only [oset]
    cases oidx L q y with
    | none => simp [va_up, z]
    | some k => rfl
/-- what is new stays off what is there -/
theorem new_off {L : LY} {q : Nat → Nat} {h : mM} {x : Nat} {v : va_E} (hx : h x = none) (hq : q L.2.1 = x) (hn : ∀ k, k < L.2.1 → ohas L k = true → va_up h x (some v) (q k) = none) : ∀ k, k ≤ L.2.1 → ohas L k = true → h (q k) = none := by
  intro k hk hh
  by_cases z : k = L.2.1
  · rw [z, hq, hx]
  · have h1 := hn k (by omega) hh
    by_cases w : q k = x
    · rw [w, hx]
    · simpa [va_up, w] using h1
theorem Bl.sub {L L2 : LY} {G : mG} {a : Nat} {h M : mM} {ks ds : List Nat} {q : Nat → Nat} {st : OS} {q2 : Nat → Nat} {st2 : OS} (B : Bl L G a h M ks ds q st) (hn : ∀ k, k ≤ L2.2.1 → ohas L2 k = true → M (q2 k) = none) : Bl L G a (oset L2 G q2 st2 h) (oset L2 G q2 st2 M) ks ds q st := by
  obtain ⟨b1, b2, b3, b4⟩ := B
  refine ⟨by rw [oset_keep (M := M) M (by rw [b1]; exact Option.some_ne_none _) hn, b1], fun k hk => ?_, b3, fun x hx hxk => ?_⟩
  · obtain ⟨c1, c2, c3, c4⟩ := b2 k hk
    have hne : M (q k) ≠ none := by rw [c2]; exact Option.some_ne_none _
    exact ⟨c1, by rw [oset_keep (M := M) M hne hn, c2], by rw [oset_keep (M := M) h hne hn, c3], c4⟩
  · simp only [oset]
    cases oidx L2 q2 x with
    | none => exact b4 x hx hxk
    | some k => rfl
theorem Bl.setq {L : LY} {G : mG} {a : Nat} {h M : mM} {ks ds : List Nat} {q : Nat → Nat} {st : OS} (B : Bl L G a h M ks ds q st) (k v : Nat) (hk : k ∉ ks) (hd : k ∉ ds) : Bl L G a h M ks ds (va_up q k v) st := by
  obtain ⟨b1, b2, b3, b4⟩ := B
  have e : ∀ j, j ≠ k → va_up q k v j = q j := fun j z => by simp [va_up, z]
  have hs : pfs L ds (va_up q k v) st = pfs L ds q st := by
    unfold pfs
    apply List.map_congr_left
    intro j _
    by_cases w : j ∈ ds
    · have : j ≠ k := fun z => hd (z ▸ w)
      simp only [e j this]
    · simp [w]
  have hne : ∀ j ∈ ks, j ≠ k := fun j hj z => hk (z ▸ hj)
  refine ⟨by rw [hs]; exact b1, fun j hj => by rw [e j (hne j hj)]; exact b2 j hj, fun i hi j hj => by rw [e i (hne i hi), e j (hne j hj)]; exact b3 i hi j hj, fun x hx hxk => b4 x hx (fun j hj => by have := hxk j hj; rwa [e j (hne j hj)] at this)⟩
/-! arrays of references -/
abbrev aQ (G : mG) (t n : Nat) (f : Nat → Option Nat) : va_E := .inl (G.2.1 t, n, .inr (.inr (.inr (.inr f))))
section MRQ
variable {p : Program} {l : Launch} {e : Env} {R : Room} {s : State} {m : MethodId} {args : Array Value} {below : List Frame} {meth : Method} {c : Code} {H : Heap} {locs : List Loc} {cells slots : Nat} {Q : State → Prop}
variable {cc : ByteArray} {nL pc idx : Nat} {ls : Array Slot} {rest : List Value} {G : mG} {h : mM} {own : String} {a : Nat} {H0 : Heap}
theorem mr_aald (X : mX G p m c cc nL s args own) (hH : mH G h H0 H locs) {t n : Nat} {C : String} {f : Nat → Option Nat} (ht : (mtys G)[t]? = some (G.2.1 t, .object C)) (ha : h a = some (aQ G t n f)) {i : Int32} (hin : vp_in i n) (hdg : decode cc pc = .ok (.aaload, 1))
    (kk : W p l e R s m args below meth c H locs cells slots Q (F0 m (pc + 1) ls (va_rf (f i.toNatClampNeg) :: rest))) : W p l e R s m args below meth c H locs cells slots Q (F0 m pc ls (.int i :: .ref a :: rest)) :=
  va_aldq X.x X.b X.2.1 (hH.1.one ha) 0 t rfl ht hin hdg kk
theorem mr_aast (X : mX G p m c cc nL s args own) (hH : mH G h H0 H locs) {t n ci v : Nat} {r : vw_C} {fs : List Value} {f : Nat → Option Nat} (ht : (mtys G)[t]? = some (G.2.1 t, .object r.1)) (ha : h a = some (aQ G t n f)) (hv : h v = some (.inr (ci, fs))) (hc : vwCl[ci]? = some r) {i : Int32} (hin : vp_in i n) (hdg : decode cc pc = .ok (.aastore, 1))
    (kk : ∀ (H1 : Heap) (locs1 : List Loc), mH G (va_up h a (some (aQ G t n (va_up f i.toNatClampNeg (some v))))) H0 H1 locs1 → W p l e R s m args below meth c H1 locs1 cells slots Q (F0 m (pc + 1) ls rest)) : W p l e R s m args below meth c H locs cells slots Q (F0 m pc ls (.ref v :: .int i :: .ref a :: rest)) := by
  have hlt : i.toNatClampNeg < n := Nat.not_le.mp fun q => hin (Or.inr q)
  have h0 : ¬ i < 0 := fun q => hin (Or.inl q)
  have hK := X.2.1
  obtain ⟨r', hr', cellV, g1, g2, g3, -⟩ := (hH.1.one hv) 0 _ rfl
  have hcls := (hK.1 ci r hc).2
  obtain ⟨kA, comp, k1, k2, k3, -⟩ := (hK.2 t _ ht).2
  have hcomp : comp = G.1.1 ci := Option.some.inj (k3.symm.trans hcls.1)
  subst hcomp
  obtain ⟨kC, hkC, -⟩ := hcls.2
  refine W.aast X.x X.b ((hH.1.one ha) 0 _ rfl) (fun q h => by cases h) (fun h => by cases h) k1 k2 rfl hkC ⟨h0, by show _ < (arrV _ _ _).slots.size; rw [arrV_size]; exact hlt⟩ g1 (fun q h => by rw [g3] at h; cases h) (by rw [g2]; exact hkC) (by rw [g2]; exact va_assign hcls) rfl rfl hdg fun H1 e z oq => ?_
  refine kk H1 _ (hH.put ha ?_ z oq)
  show H1[a]? = some (vp_cell _ _)
  rw [e]
  rw [vp_cell_q, vp_cell_q, arrV_store]
  congr 2
  funext q
  by_cases hq : q = i.toNatClampNeg
  · subst hq
    simp [updV, va_up, va_rf]
  · simp [updV, va_up, hq]
theorem mr_anew (X : mX G p m c cc nL s args own) (hH : mH G h H0 H locs) {C : String} (hlink : Cond.classLink own idx C ∈ GW) (hover : va_AO C s) {t : Nat} (ht : (mtys G)[t]? = some (G.2.1 t, .object C)) {n : Int32} {N : Nat} (hn : ¬ n < 0) (hN : n.toNatClampNeg = N) (hbytes : N * 4 ≤ 536870912) (hcells : cells + 1 ≤ R.cells) (hslots : slots + N ≤ R.slots) (hdg : decode cc pc = .ok (.anewarray idx, 3))
    (kk : ∀ (x : Nat) (H1 : Heap), h x = none → mH G (va_up h x (some (aQ G t N (fun _ => none)))) H0 H1 locs → W p l e R s m args below meth c H1 locs (cells + 1) (slots + N) Q (F0 m (pc + 3) ls (.ref x :: rest))) : W p l e R s m args below meth c H locs cells slots Q (F0 m pc ls (.int n :: rest)) := by
  subst hN
  refine W.anew X.x X.b X.ow (X.ts _ hlink) (va_AO.use hover) rfl hdg rfl hn hbytes hcells hslots fun cA kA comp f1 f2 f3 f4 => ?_
  obtain ⟨_, _, -, -, -, k4⟩ := (X.2.1.2 t _ ht).2
  have hc : cA = G.2.1 t := Option.some.inj (f1.symm.trans k4)
  subst hc
  generalize hH1 : H.push ({ cls := G.2.1 t, slots := Array.replicate n.toNatClampNeg .null, vm := .none } : Cell) = H1
  have z1 : H1.size = H.size + 1 := by rw [← hH1, Array.size_push]
  have e1 : H1[H.size]? = some (arrV (G.2.1 t) n.toNatClampNeg (fun _ => .null)) := by rw [← hH1, Array.getElem?_push_size, ← arrV_new]
  have o1 : ∀ q : Nat, q < H.size → H1[q]? = H[q]? := fun q hq => by rw [← hH1, Array.getElem?_push, if_neg (Nat.ne_of_lt hq)]
  obtain ⟨hH2, hn1⟩ := hH.mk (e := aQ G t n.toNatClampNeg (fun _ => none)) (H1 := H1) (by
    show H1[H.size]? = some (vp_cell _ _)
    rw [vp_cell_q]
    exact e1) z1 o1
  exact kk H.size H1 hn1 hH2
end MRQ
section MMK
variable {p : Program} {l : Launch} {e : Env} {R : Room} {s : State} {m : MethodId} {args : Array Value} {below : List Frame} {meth : Method} {c : Code} {H : Heap} {locs : List Loc} {cells slots : Nat} {Q : State → Prop}
variable {cc : ByteArray} {nL pc idx : Nat} {ls : Array Slot} {rest : List Value} {G : mG} {h : mM} {own : String} {a : Nat}
theorem mr_runIN {y : MethodName} {host : String} {cb : ByteArray} {mL n : Nat} {rm : Room} {As : List Value} {Qc : Array Value → State → Outcome → State → Prop} (X : mX G p m c cc nL s args own) (hH : mH G h s.heap H locs) (hM : cQ l G y cb mL none rm (.ref a :: As) h Qc) (k1 : Cond.methodLinkNest own idx y host ∈ NW) (k2 : Cond.instanceMethod y ∈ GW) (k3 : Cond.initialized y.cls ∈ GW) (k4 : Cond.code y cb mL none ∈ GW) (hy : y.name = "<init>") (hd : mHd y n) (hR : rm.frames + 1 ≤ R.frames ∧ 8 + (mL + 11) + rm.locals ≤ R.locals) (hn : As.length = n) (hls : ls.size = nL) (hw : (rest.map fun v => v.category).sum ≤ 8) (hdg : decode cc pc = .ok (.invokespecial idx, 3)) (hf : cells + rm.cells ≤ R.cells ∧ slots + rm.slots ≤ R.slots) :
    va_Run p l e R s m args below meth c H locs cells slots rm.cells rm.slots (F0 m pc ls (As.reverse ++ .ref a :: rest)) rest (Qc (Value.ref a :: As).toArray) (mA G) :=
  va_runIN (n := n) (host := host) X.1 hM ⟨va_cnB n X.ts (gw_goodIn k4) rfl rfl rfl (X.2.2.1 _ k1) (X.ts _ k3) hd hR, hy, X.ts _ k2⟩ ⟨mPc_blind _, fun _ hU hW => mPc_at X hH hU hW⟩ rfl hn hls rfl (lv_room hw) hdg hf
end MMK
theorem oset_upx {L : LY} {G : mG} {q : Nat → Nat} {st : OS} {h : mM} {x : Nat} {v : Option va_E} (hx : ∀ k, k ≤ L.2.1 → ohas L k = true → q k ≠ x) : oset L G q st (va_up h x v) = va_up (oset L G q st h) x v := by
  funext y
  by_cases z : y = x
  · subst z
    rw [oset_out hx]
    simp [va_up]
  · simp only [oset, va_up, if_neg z]
theorem Bl.base {L : LY} {G : mG} {a : Nat} {h M : mM} {ks ds : List Nat} {q : Nat → Nat} {st : OS} {x : Nat} {v : va_E} (B : Bl L G a h M ks ds q st) (hx : M x = none) : Bl L G a (va_up h x (some v)) (va_up M x (some v)) ks ds q st := by
  obtain ⟨b1, b2, b3, b4⟩ := B
  have hne : ∀ y : Nat, M y ≠ none → y ≠ x := fun y hy z => hy (z ▸ hx)
  have e : ∀ (M' : mM) (y : Nat), M y ≠ none → va_up M' x (some v) y = M' y := fun M' y hy => by simp [va_up, hne y hy]
  refine ⟨by rw [e M a (by rw [b1]; exact Option.some_ne_none _), b1], fun k hk => ?_, b3, fun y hy hyk => ?_⟩
  · obtain ⟨c1, c2, c3, c4⟩ := b2 k hk
    have hn : M (q k) ≠ none := by rw [c2]; exact Option.some_ne_none _
    exact ⟨c1, by rw [e M _ hn, c2], by rw [e h _ hn, c3], c4⟩
  · by_cases z : y = x
    · subst z; simp [va_up]
    · simp only [va_up, if_neg z]
      exact b4 y hy hyk
/-! what is laid over a memory, one after the other: objects and single cells -/
abbrev Ent : Type := OE ⊕ (Nat × va_E)
def elay (G : mG) (e : Ent) (m : mM) : mM := match e with
  | .inl x => oset x.1 G x.2.1 x.2.2 m
  | .inr c => va_up m c.1 (some c.2)
def lay (G : mG) (es : List Ent) (h : mM) : mM := es.foldr (elay G) h
def ecell (e : Ent) (y : Nat) : Prop := match e with
  | .inl x => ∃ k, k ≤ x.1.2.1 ∧ ohas x.1 k = true ∧ x.2.1 k = y
  | .inr c => c.1 = y
def fresh1 (e : Ent) (h : mM) : Prop := ∀ y, ecell e y → h y = none
def freshs (G : mG) : List Ent → mM → Prop
  | [], _ => True
  | e :: es, h => freshs G es h ∧ fresh1 e (lay G es h)
theorem lay_app {G : mG} {a b : List Ent} {h : mM} : lay G (a ++ b) h = lay G a (lay G b h) := by simp [lay, List.foldr_append]
theorem elay_out {G : mG} {e : Ent} {m : mM} {y : Nat} (h : ¬ ecell e y) : elay G e m y = m y := by
  cases e with
  | inl x => exact oset_out fun k hk hh z => h ⟨k, hk, hh, z⟩
  | inr c => 
    have : y ≠ c.1 := fun z => h z.symm
    simp [elay, va_up, this]
theorem elay_up {G : mG} {e : Ent} {m : mM} {x : Nat} {v : Option va_E} (h : ¬ ecell e x) : elay G e (va_up m x v) = va_up (elay G e m) x v := by
  cases e with
  | inl o => exact oset_upx fun k hk hh z => h ⟨k, hk, hh, z⟩
  | inr c =>
    have hn : c.1 ≠ x := h
    funext y
    by_cases z : y = x
    · subst z
      have : y ≠ c.1 := fun w => hn w.symm
      simp [elay, va_up, this]
    · by_cases w : y = c.1
      · subst w; simp [elay, va_up, z]
      · simp [elay, va_up, z, w]
theorem lay_up {G : mG} {x : Nat} {v : va_E} {h : mM} (hx : h x = none) : ∀ es : List Ent, freshs G es (va_up h x (some v)) → freshs G es h ∧ lay G es (va_up h x (some v)) = va_up (lay G es h) x (some v) ∧ lay G es h x = none := by
  intro es
  induction es with
  | nil => exact fun _ => ⟨trivial, rfl, hx⟩
  | cons e es ih =>
    intro hf
    obtain ⟨f1, f2⟩ := hf
    obtain ⟨i1, i2, i3⟩ := ih f1
    rw [i2] at f2
    have hne : ¬ ecell e x := fun z => by have := f2 x z; simp [va_up] at this
    have f3 : fresh1 e (lay G es h) := fun y hy => by
      have h1 := f2 y hy
      by_cases z : y = x
      · rw [z]; exact i3
      · simpa [va_up, z] using h1
    refine ⟨⟨i1, f3⟩, ?_, ?_⟩
    · show elay G e (lay G es (va_up h x (some v))) = _
      rw [i2, elay_up hne]
      rfl
    · show elay G e (lay G es h) x = none
      rw [elay_out hne, i3]
theorem Bl.fresh {L : LY} {G : mG} {a : Nat} {h M : mM} {ks ds : List Nat} {q : Nat → Nat} {st : OS} (B : Bl L G a h M ks ds q st) {x : Nat} (hx : M x = none) : h x = none := by
  obtain ⟨b1, b2, b3, b4⟩ := B
  rw [← b4 x (fun z => by rw [z, b1] at hx; cases hx) (fun k hk z => by rw [z, (b2 k hk).2.1] at hx; cases hx)]
  exact hx
theorem Bl.ent {L : LY} {G : mG} {a : Nat} {h M : mM} {ks ds : List Nat} {q : Nat → Nat} {st : OS} (B : Bl L G a h M ks ds q st) {e : Ent} (hn : fresh1 e M) : Bl L G a (elay G e h) (elay G e M) ks ds q st := by
  cases e with
  | inl x => exact B.sub fun k hk hh => hn _ ⟨k, hk, hh, rfl⟩
  | inr c => exact B.base (hn _ rfl)
theorem Bl.lays {L : LY} {G : mG} {a : Nat} {h M : mM} {ks ds : List Nat} {q : Nat → Nat} {st : OS} {es : List Ent} (B : Bl L G a (lay G es h) M ks ds q st ∧ freshs G es h) : ∀ es2 : List Ent, freshs G es2 M → Bl L G a (lay G (es2 ++ es) h) (lay G es2 M) ks ds q st ∧ freshs G (es2 ++ es) h := by
  intro es2
  induction es2 with
  | nil => exact fun _ => B
  | cons e es2 ih =>
    intro hf
    obtain ⟨i1, i2⟩ := ih hf.1
    refine ⟨i1.ent hf.2, i2, fun y hy => i1.fresh (hf.2 y hy)⟩
section MMK2
variable {p : Program} {l : Launch} {e : Env} {R : Room} {s : State} {m : MethodId} {args : Array Value} {below : List Frame} {meth : Method} {c : Code} {H : Heap} {locs : List Loc} {cells slots : Nat} {Q : State → Prop}
variable {cc : ByteArray} {nL pc idx idx2 : Nat} {ls : Array Slot} {rest : List Value} {G : mG} {h : mM} {own : String} {a : Nat}
/-- what a constructor promises: the object over what it made -/
def newP (L : LY) (G : mG) (st : OS) (S : List Ent → (Nat → Nat) → Prop) (x : Nat) (h : mM) (h1 : mM) : Prop := ∃ (q : Nat → Nat) (es : List Ent), S es q ∧ q L.2.1 = x ∧ h1 = oset L G q st (lay G es h) ∧ oinj L q ∧ freshs G es h ∧ ∀ k, k < L.2.1 → ohas L k = true → lay G es h (q k) = none
theorem newP.take {L : LY} {G : mG} {st : OS} {S : List Ent → (Nat → Nat) → Prop} {x : Nat} {h h1 : mM} {v : va_E} (hx : h x = none) (hp : newP L G st S x (va_up h x (some v)) h1) : ∃ (q : Nat → Nat) (es : List Ent), S es q ∧ q L.2.1 = x ∧ h1 = lay G (.inl (L, q, st) :: es) h ∧ oinj L q ∧ freshs G (.inl (L, q, st) :: es) h := by
  obtain ⟨q, es, hS, hq, hh, hi, hf, hn⟩ := hp
  obtain ⟨u1, u2, u3⟩ := lay_up hx es hf
  rw [u2] at hh hn
  refine ⟨q, es, hS, hq, hh.trans (oset_absorb hi hq), hi, u1, fun y hy => ?_⟩
  obtain ⟨k, hk, hh2, rfl⟩ := hy
  exact new_off u3 hq hn k hk hh2
theorem newP.simple {L : LY} {G : mG} {st : OS} {x : Nat} {h h1 : mM} (hp : ∃ q : Nat → Nat, q L.2.1 = x ∧ h1 = oset L G q st h ∧ oinj L q ∧ ∀ k, k < L.2.1 → ohas L k = true → h (q k) = none) : newP L G st (fun es _ => es = []) x h h1 := by
  obtain ⟨q, h1, h2, h3, h4⟩ := hp
  exact ⟨q, [], rfl, h1, h2, h3, trivial, h4⟩
/-- new C; dup; C.<init>() -/
theorem mr_mk {C : String} {T : u_T} {L : LY} {ty : Nat → FieldType} {y : MethodName} {host : String} {cb : ByteArray} {mL : Nat} {rm : Room} {st : OS} {S : List Ent → (Nat → Nat) → Prop} {P : Nat → mM → mM → Prop} (hP : ∀ x h' h1, P x h' h1 → newP L G st S x h' h1) (X : mX G p m c cc nL s args own) (hH : mH G h s.heap H locs) (hin : ∀ w ∈ u_ws C T L.2.1, w ∈ GW) (hty : ∀ k, k < L.2.1 → parseFieldDescriptor (T k).2.2.1 = some (ty k)) (hc : vwCl[L.1]? = some (C, T, L.2.1)) (kL : Cond.classLink own idx C ∈ GW) (kB : Cond.instantiable C L.2.1 ∈ GW) (kN : Cond.initialized C ∈ GW) (hfs : ∀ j, j < L.2.1 → defaultValue (ty j) = vp_V (dflt L) j)
    (hcon : ∀ (x : Nat) (h' : mM), h' x = some (.inr (L.1, dflt L)) → cQ l G y cb mL none rm [.ref x] h' (mQv G (P x h'))) (k1 : Cond.methodLinkNest own idx2 y host ∈ NW) (k2 : Cond.instanceMethod y ∈ GW) (k3 : Cond.initialized y.cls ∈ GW) (k4 : Cond.code y cb mL none ∈ GW) (hy : y.name = "<init>") (hd : mHd y 0) (hR : rm.frames + 1 ≤ R.frames ∧ 8 + (mL + 11) + rm.locals ≤ R.locals) (hls : ls.size = nL) (hw : 1 + (rest.map fun v => v.category).sum ≤ 8) (hr1 : cells + 1 ≤ R.cells) (hr2 : slots + L.2.1 ≤ R.slots) (hf : cells + 1 + rm.cells ≤ R.cells ∧ slots + L.2.1 + rm.slots ≤ R.slots)
    (d0 : decode cc pc = .ok (.new idx, 3)) (d1 : decode cc (pc + 3) = .ok (.dup, 1)) (d2 : decode cc (pc + 3 + 1) = .ok (.invokespecial idx2, 3))
    (kk : ∀ (q : Nat → Nat) (es : List Ent) (H1 : Heap) (locs1 : List Loc), S es q → oinj L q → freshs G (.inl (L, q, st) :: es) h → mH G (lay G (.inl (L, q, st) :: es) h) s.heap H1 locs1 → W p l e R s m args below meth c H1 locs1 (cells + 1 + rm.cells) (slots + L.2.1 + rm.slots) Q (F0 m (pc + 3 + 1 + 3) ls (.ref (q L.2.1) :: rest))) : W p l e R s m args below meth c H locs cells slots Q (F0 m pc ls rest) := by
  refine mr_new (ci := L.1) X hH hin ty hty hc kL kB kN hfs hr1 hr2 d0 (fun x H hx hH => ?_)
  refine lv_dup X.x X.b d1 rfl ?_
  refine mr_cv hH (mr_runIN (As := []) (rest := .ref x :: rest) X hH (hcon x _ (by simp [va_up])) k1 k2 k3 k4 hy hd hR rfl hls hw d2 hf) (fun h1 H locs hp hH => ?_)
  obtain ⟨q, es, hS, hq, hh, hi, hf⟩ := (hP _ _ _ hp).take hx
  rw [hh] at hH
  rw [← hq]
  exact kk q es H locs hS hi hf hH
end MMK2
