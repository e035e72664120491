/-! objects in a memory, each cell owned by its object's own address -/
def At (G : mG) (own : Nat → Nat) (m : mM) (L : LY) (q : Nat → Nat) (st : OS) : Prop :=
  oinj L q ∧ ∀ k, k ≤ L.2.1 → ohas L k = true → m (q k) = some (ocell L G q st k) ∧ own (q k) = q L.2.1
section AT
variable {G : mG} {own own' : Nat → Nat} {m m' : mM} {L L1 L2 : LY} {q q1 q2 : Nat → Nat} {st s1 s2 x : OS}
theorem At.eq (h : At G own m L q st) : oset L G q st m = m := by
  funext a
  simp only [oset]
  cases hf : oidx L q a with
  | none => rfl
  | some k =>
    obtain ⟨h1, h2, h3⟩ := oidx_some hf
    show some _ = _
    rw [← (h.2 k h1 h2).1, h3]
theorem At.dis (h1 : At G own m L1 q1 s1) (h2 : At G own m' L2 q2 s2) (hn : q1 L1.2.1 ≠ q2 L2.2.1) : odis L1 q1 L2 q2 :=
  fun i j hi hj a b z => hn (by rw [← (h1.2 i hi a).2, z, (h2.2 j hj b).2])
theorem At.self (h : At G own m L q st) : At G own (oset L G q x m) L q x :=
  ⟨h.1, fun k hk hh => ⟨oset_at h.1 hk hh, (h.2 k hk hh).2⟩⟩
theorem At.put (h1 : At G own m' L1 q1 s1) (h2 : At G own m L2 q2 s2) (hn : q1 L1.2.1 ≠ q2 L2.2.1) : At G own (oset L1 G q1 x m) L2 q2 s2 :=
  ⟨h2.1, fun k hk hh => ⟨by rw [oset_out fun i hi a z => At.dis h1 h2 hn i k hi hk a hh z]; exact (h2.2 k hk hh).1, (h2.2 k hk hh).2⟩⟩
/-- a memory and another: nothing changed but what roots of S own -/
def Fr (S : Nat → Prop) (own : Nat → Nat) (m : mM) (own' : Nat → Nat) (m' : mM) : Prop := ∀ a e, m a = some e → own' a = own a ∧ (¬ S (own a) → m' a = some e) ∧ m' a ≠ none
theorem Fr.rf {S : Nat → Prop} : Fr S own m own m := fun a e h => ⟨rfl, fun _ => h, by rw [h]; exact Option.some_ne_none _⟩
theorem Fr.at {S : Nat → Prop} (h : Fr S own m own' m') (hq : ¬ S (q L.2.1)) (hA : At G own m L q st) : At G own' m' L q st :=
  ⟨hA.1, fun k hk hh => by
    obtain ⟨h1, h2⟩ := hA.2 k hk hh
    obtain ⟨h3, h4, -⟩ := h _ _ h1
    exact ⟨h4 (by rw [h2]; exact hq), by rw [h3, h2]⟩⟩
theorem Fr.tr {S : Nat → Prop} {own2 : Nat → Nat} {m2 : mM} (h : Fr S own m own' m') (h' : Fr S own' m' own2 m2) : Fr S own m own2 m2 := fun a e ha => by
  obtain ⟨h1, h2, h3⟩ := h a e ha
  obtain ⟨e', he'⟩ := Option.ne_none_iff_exists'.mp h3
  obtain ⟨k1, k2, k3⟩ := h' a e' he'
  refine ⟨k1.trans h1, fun hn => ?_, k3⟩
  have := h2 hn
  rw [he'] at this
  cases this
  exact k2 (by rw [h1]; exact hn)
theorem Fr.mono {S T : Nat → Prop} (h : Fr S own m own' m') (hST : ∀ a, S a → T a) : Fr T own m own' m' := fun a e ha => ⟨(h a e ha).1, fun hn => (h a e ha).2.1 (fun z => hn (hST _ z)), (h a e ha).2.2⟩
theorem At.fr (h : At G own m' L q st) : Fr (fun r => r = q L.2.1) own m own (oset L G q x m) := fun a e ha => by
  refine ⟨rfl, fun hn => ?_, ?_⟩
  · rw [oset_out fun k hk hh z => hn (by rw [← z]; exact (h.2 k hk hh).2)]
    exact ha
  · simp only [oset]
    cases oidx L q a with
    | none => rw [ha]; exact Option.some_ne_none _
    | some k => exact Option.some_ne_none _
/-- a new object -/
def ownN (L : LY) (q : Nat → Nat) (own : Nat → Nat) : Nat → Nat := fun a => match oidx L q a with
  | some _ => q L.2.1
  | none => own a
theorem At.new (hq : oinj L q) : At G (ownN L q own) (oset L G q st m) L q st :=
  ⟨hq, fun k hk hh => ⟨oset_at hq hk hh, by simp only [ownN, oidx_at hq hk hh]⟩⟩
theorem Fr.new {S : Nat → Prop} (hf : ∀ k, k ≤ L.2.1 → ohas L k = true → m (q k) = none) : Fr S own m (ownN L q own) (oset L G q st m) := fun a e ha => by
  have hn : oidx L q a = none := by
    cases h : oidx L q a with
    | none => rfl
    | some k =>
      obtain ⟨h1, h2, h3⟩ := oidx_some h
      have := hf k h1 h2
      rw [h3, ha] at this
      cases this
  refine ⟨by simp only [ownN, hn], fun _ => ?_, ?_⟩ <;> simp only [oset, hn, ha]
  exact Option.some_ne_none _
/-- a single cell -/
def C1 (own : Nat → Nat) (m : mM) (a : Nat) (e : va_E) : Prop := m a = some e ∧ own a = a
theorem Fr.c1 {S : Nat → Prop} {a : Nat} {e : va_E} (h : Fr S own m own' m') (ha : ¬ S a) (hC : C1 own m a e) : C1 own' m' a e := by
  obtain ⟨h3, h4, -⟩ := h _ _ hC.1
  exact ⟨h4 (by rw [hC.2]; exact ha), by rw [h3, hC.2]⟩
theorem C1.fr {a : Nat} {e e' : va_E} (hC : C1 own m a e) : Fr (fun r => r = a) own m own (va_up m a (some e')) := fun b e9 hb => by
  by_cases z : b = a
  · subst z
    exact ⟨rfl, fun hn => absurd hC.2 hn, by simp [va_up]⟩
  · exact ⟨rfl, fun _ => by simpa [va_up, z] using hb, by simp [va_up, z, hb]⟩
theorem C1.self {a : Nat} {e e' : va_E} (hC : C1 own m a e) : C1 own (va_up m a (some e')) a e' := ⟨by simp [va_up], hC.2⟩
theorem At.root (h : At G own m L q st) : m (q L.2.1) = some (.inr (L.1, ofs L q st)) := (h.2 _ (Nat.le_refl _) ohas_N).1.trans (congrArg some ocell_N)
theorem At.ne (h1 : At G own m L1 q1 s1) (h2 : At G own m L2 q2 s2) (hn : L1.1 ≠ L2.1) : q1 L1.2.1 ≠ q2 L2.2.1 := fun z => by
  have a := h1.root
  rw [z, h2.root] at a
  exact hn (congrArg Prod.fst (Sum.inr.inj (Option.some.inj a))).symm
theorem At.neC (h1 : At G own m L q st) {a : Nat} {y : ClassId × vp_A} (h2 : C1 own m a (.inl y)) : q L.2.1 ≠ a := fun z => by
  have e := h1.root
  rw [z, h2.1] at e
  cases e
theorem oap2 (h : odis L1 q1 L2 q2) : oap [(L1, q1), (L2, q2)] := by
  intro i j x y hx hy hij
  match i, j, hx, hy with
  | 0, 0, _, _ => exact absurd rfl hij
  | 0, 1, hx, hy => cases hx; cases hy; exact h
  | 1, 0, hx, hy => cases hx; cases hy; exact h.symm
  | 1, 1, _, _ => exact absurd rfl hij
  | k + 2, _, hx, _ => simp at hx
  | _, k + 2, _, hy => simp at hy
theorem oap1 : oap [(L, q)] := by
  intro i j x y hx hy hij
  match i, j, hx, hy with
  | 0, 0, _, _ => exact absurd rfl hij
  | k + 1, _, hx, _ => simp at hx
  | _, k + 1, _, hy => simp at hy
theorem oap_cons {k : LY × (Nat → Nat)} {ks : List (LY × (Nat → Nat))} (h1 : ∀ x ∈ ks, odis k.1 k.2 x.1 x.2) (h2 : oap ks) : oap (k :: ks) := by
  intro i j x y hx hy hij
  match i, j, hx, hy with
  | 0, 0, _, _ => exact absurd rfl hij
  | 0, j + 1, hx, hy => cases hx; exact h1 y (List.mem_of_getElem? hy)
  | i + 1, 0, hx, hy => cases hy; exact (h1 x (List.mem_of_getElem? hx)).symm
  | i + 1, j + 1, hx, hy => exact h2 i j x y hx hy (fun z => hij (by rw [z]))
theorem oap_nil : oap [] := fun i j x y hx => by simp at hx
end AT
/-! methods that may throw -/
def exN (k : Nat) : String := match k with | 0 => "java/util/NoSuchElementException" | 1 => "java/lang/IllegalArgumentException" | 2 => "java/lang/IllegalStateException" | _ => "java/lang/IndexOutOfBoundsException"
abbrev mXX (G : mG) (px : String → mM → Prop) : String → State → State → Prop := vx_X (S := String × mM) (fun u => px u.1 u.2) (fun E u t => E = u.1 ∧ mI G u.2 t.heap) (mA G)
def xQ (l : Launch) (G : mG) (y : MethodName) (cc : ByteArray) (mL : Nat) (ret : Option FieldType) (rm : Room) (av : List Value) (h : mM) (Qc : Array Value → State → Outcome → State → Prop) (px : String → mM → Prop) : Prop :=
  vx_Met l y (Cond.code y cc mL ret :: GW) rm (mPc G av h) Qc (mXX G px) rm.cells rm.slots (mA G)
def mTh (s : State) (H : Heap) (q : Addr) (E : String) : Prop := ∃ ce : Cell, H[q]? = some ce ∧ ce.vm = .none ∧ s.vm.findClass E = some ce.cls
section MX
variable {p : Program} {l : Launch} {e : Env} {R : Room} {s : State} {m : MethodId} {args : Array Value} {below : List Frame} {meth : Method} {c : Code} {H : Heap} {locs : List Loc} {cells slots : Nat} {Q : State → Prop}
variable {cc : ByteArray} {nL pc : Nat} {ls : Array Slot} {rest : List Value} {G : mG} {h : mM} {own : String} {a : Nat}
section ONE
variable {y : MethodName} {cb : ByteArray} {mL idx n : Nat} {ret : Option FieldType} {rm : Room} {As : List Value} {Qc : Array Value → State → Outcome → State → Prop} {px : String → mM → Prop}
theorem mr_xrunV (X : mX G p m c cc nL s args own) (hH : mH G h s.heap H locs) (hM : xQ l G y cb mL ret rm (.ref a :: As) h Qc px) {ci : Nat} {fs : List Value} {T : u_T} {N : Nat} (ha : h a = some (.inr (ci, fs))) (hc : vwCl[ci]? = some (y.cls, T, N)) (k1 : Cond.methodLink own idx y ∈ GW) (k2 : Cond.instanceMethod y ∈ GW) (k5 : Cond.selects y.cls y y ∈ GW) (k3 : Cond.initialized y.cls ∈ GW) (k4 : Cond.code y cb mL ret ∈ GW) (hd : mHd y n) (hR : rm.frames + 1 ≤ R.frames ∧ 8 + (mL + 11) + rm.locals ≤ R.locals) (hn : As.length = n) (hls : ls.size = nL) (hw : (rest.map fun v => v.category).sum ≤ 8) (hdg : decode cc pc = .ok (.invokevirtual idx, 3)) (hf : cells + rm.cells ≤ R.cells ∧ slots + rm.slots ≤ R.slots) :
    vx_Run p l e R s m args below meth c H locs cells slots rm.cells rm.slots (F0 m pc ls (As.reverse ++ .ref a :: rest)) rest (Qc (Value.ref a :: As).toArray) (mXX G px) (mA G) :=
  vx_runV (n := n) X.1 hM ⟨callB_of n X.ts (gw_goodIn k4) rfl rfl rfl (X.ts _ k3) (X.ts _ k1) hd hR, X.ts _ k2, X.ts _ k5⟩ ⟨mPc_blind _, va_recv X.2.1 (hH.1.one ha) (q0 := 0) hc rfl, fun _ hU hW => mPc_at X hH hU hW⟩ rfl hn hls rfl (lv_room hw) hdg hf
end ONE
section TWO
variable {st0 : List Value} {aa : Array Value} {mc ms : Nat} {px : String → mM → Prop}
theorem mr_xi (hH : mH G h s.heap H locs) {post : Int32 → mM → Prop} (hr : vx_Run p l e R s m args below meth c H locs cells slots mc ms (F0 m pc ls st0) rest (mQi G post aa) (mXX G px) (mA G))
    (kx : ∀ (E : String) (h1 : mM) (q9 : Addr) (H1 : Heap) (locs1 : List Loc), px E h1 → mH G h1 s.heap H1 locs1 → mTh s H1 q9 E → vx_W p l e R s m args below meth c H1 locs1 (cells + mc) (slots + ms) Q (F0 m pc ls rest) q9)
    (kk : ∀ (r : Int32) (h1 : mM) (H1 : Heap) (locs1 : List Loc), post r h1 → mH G h1 s.heap H1 locs1 → W p l e R s m args below meth c H1 locs1 (cells + mc) (slots + ms) Q (F0 m (pc + 3) ls (.int r :: rest))) : W p l e R s m args below meth c H locs cells slots Q (F0 m pc ls st0) :=
  vx_calli hr hH.2.1 (fun _ _ q => q) (fun _ q => q) (fun _ _ q => q) (fun E ce q9 u t H1 locs1 ht _ hp hB _ _ hS h1 h2 h3 => kx E u.2 q9 H1 locs1 (by rw [hB.1]; exact hp) ⟨by rw [← ht]; exact hB.2, hS, hH.2.2⟩ ⟨ce, h1, h2, h3⟩) (fun r u _ H1 locs1 ht _ hw hB _ _ hS => kk r u H1 locs1 hw ⟨by rw [← ht]; exact hB, hS, hH.2.2⟩)
theorem mr_xl (hH : mH G h s.heap H locs) {post : Int64 → mM → Prop} (hr : vx_Run p l e R s m args below meth c H locs cells slots mc ms (F0 m pc ls st0) rest (mQl G post aa) (mXX G px) (mA G))
    (kx : ∀ (E : String) (h1 : mM) (q9 : Addr) (H1 : Heap) (locs1 : List Loc), px E h1 → mH G h1 s.heap H1 locs1 → mTh s H1 q9 E → vx_W p l e R s m args below meth c H1 locs1 (cells + mc) (slots + ms) Q (F0 m pc ls rest) q9)
    (kk : ∀ (r : Int64) (h1 : mM) (H1 : Heap) (locs1 : List Loc), post r h1 → mH G h1 s.heap H1 locs1 → W p l e R s m args below meth c H1 locs1 (cells + mc) (slots + ms) Q (F0 m (pc + 3) ls (.long r :: rest))) : W p l e R s m args below meth c H locs cells slots Q (F0 m pc ls st0) :=
  vx_calll hr hH.2.1 (fun _ _ q => q) (fun _ q => q) (fun _ _ q => q) (fun E ce q9 u t H1 locs1 ht _ hp hB _ _ hS h1 h2 h3 => kx E u.2 q9 H1 locs1 (by rw [hB.1]; exact hp) ⟨by rw [← ht]; exact hB.2, hS, hH.2.2⟩ ⟨ce, h1, h2, h3⟩) (fun r u _ H1 locs1 ht _ hw hB _ _ hS => kk r u H1 locs1 hw ⟨by rw [← ht]; exact hB, hS, hH.2.2⟩)
theorem mr_xv (hH : mH G h s.heap H locs) {post : mM → Prop} (hr : vx_Run p l e R s m args below meth c H locs cells slots mc ms (F0 m pc ls st0) rest (mQv G post aa) (mXX G px) (mA G))
    (kx : ∀ (E : String) (h1 : mM) (q9 : Addr) (H1 : Heap) (locs1 : List Loc), px E h1 → mH G h1 s.heap H1 locs1 → mTh s H1 q9 E → vx_W p l e R s m args below meth c H1 locs1 (cells + mc) (slots + ms) Q (F0 m pc ls rest) q9)
    (kk : ∀ (h1 : mM) (H1 : Heap) (locs1 : List Loc), post h1 → mH G h1 s.heap H1 locs1 → W p l e R s m args below meth c H1 locs1 (cells + mc) (slots + ms) Q (F0 m (pc + 3) ls rest)) : W p l e R s m args below meth c H locs cells slots Q (F0 m pc ls st0) :=
  vx_callv hr hH.2.1 (fun _ _ q => q) (fun _ q => q) (fun _ _ q => q) (fun E ce q9 u t H1 locs1 ht _ hp hB _ _ hS h1 h2 h3 => kx E u.2 q9 H1 locs1 (by rw [hB.1]; exact hp) ⟨by rw [← ht]; exact hB.2, hS, hH.2.2⟩ ⟨ce, h1, h2, h3⟩) (fun u _ H1 locs1 ht _ hw hB _ _ hS => kk u H1 locs1 hw ⟨by rw [← ht]; exact hB, hS, hH.2.2⟩)
end TWO
section THREE
variable {mc ms : Nat} {px : String → mM → Prop} {Qc : Array Value → State → Outcome → State → Prop}
/-- a throw goes on to the caller -/
theorem mr_xout (hno : ∀ x ∈ c.exceptionTable.toList, False) (hlk : meth.locks = false) (hH : mH G h s.heap H locs) {E : String} {q : Addr} (hth : mTh s H q E) (hp : px E h) (hc : cells ≤ mc) (hs : slots ≤ ms) :
    vx_W p l e R s m args below meth c H locs cells slots (vx_MQ below Qc (mXX G px) args s mc ms (mA G)) (F0 m pc ls rest) q := by
  obtain ⟨ce, h1, h2, h3⟩ := hth
  exact vx_out (fun x hx => (hno x hx).elim) hlk h1 h2 h3 (fun t ht _ => ⟨(E, h), hp, ⟨rfl, by rw [ht]; exact hH.1⟩, hH.2.1.F ht⟩) hH.2.1.2.2 hc hs
/-- the words that a throw of an exception of ours needs -/
def exT (own : String) (ic k : Nat) : Prop := ∀ w ∈ vx_atS own ic (exN k) ["java/lang/RuntimeException", "java/lang/Exception"], w ∈ GW ∨ w ∈ NW
theorem nw_ot {w : Cond} (h : w ∈ NW) : vx_ot w = true := by
  have h2 := (List.mem_filter.mp h).2
  cases w with
  | fieldLinkNest a i b n d z => rfl
  | methodLinkNest a i x z => rfl
  | castable a b => rfl
  | declares x => rfl
  | _ => cases h2
theorem mr_kept {t : State} (hH : mH G h s.heap H locs) (h1 : H.size ≤ t.heap.size) (h2 : ∀ q : Nat, q < H.size → t.heap[q]? = H[q]?) : mI G h t.heap ∧ va_F (mA G) s t :=
  ⟨fun a e ha => ⟨(hH.1 a e ha).1.kept (h2 a (hH.1.lt ha)), (hH.1 a e ha).2⟩, Nat.le_trans hH.2.1.1 h1, fun q hq hn => (h2 q (Nat.lt_of_lt_of_le hq hH.2.1.1)).trans (hH.2.1.2.1 q hq hn)⟩
theorem exF : ∀ k, Bundle.fit (exN k) = true := by
  intro k
  match k with
  | 0 => decide +kernel
  | 1 => decide +kernel
  | 2 => decide +kernel
  | k + 3 =>
    show Bundle.fit "java/lang/IndexOutOfBoundsException" = true
    decide +kernel
theorem mr_throwS (X : mX G p m c cc nL s args own) (hno : ∀ x ∈ c.exceptionTable.toList, False) (hlk : meth.locks = false) (hls : ls.size = nL) (hst : l.stackTraces = false) (hH : mH G h s.heap H locs) (k : Nat) {ik is ic : Nat} (i : Nat) (hi : i < sTab.length) (h1 : (sEnt i).1 = own) (h2 : (sEnt i).2.1 = is) (hw : exT own ic k) (kL : Cond.classLink own ik (exN k) ∈ GW) (kN : Cond.initialized (exN k) ∈ GW)
    (d0 : decode cc pc = .ok (.new ik, 3)) (d3 : decode cc (pc + 3) = .ok (.dup, 1)) (d4 : decode cc (pc + 4) = .ok (.ldc is, 2)) (d6 : decode cc (pc + 6) = .ok (.invokespecial ic, 3)) (d9 : decode cc (pc + 9) = .ok (.athrow, 1))
    (hR : 5 < R.frames ∧ (rest.map fun v => v.category).sum + 82 ≤ R.locals ∧ cells + 1 ≤ R.cells ∧ slots + 6 ≤ R.slots) (hc : cells + 1 ≤ mc) (hs : slots + 6 ≤ ms) (hp : px (exN k) h) :
    W p l e R s m args below meth c H locs cells slots (vx_MQ below Qc (mXX G px) args s mc ms (mA G)) (F0 m pc ls rest) := by
  have hz := (X.z.1 i hi).1
  rw [h1, h2] at hz
  have hgood : ∀ w ∈ Cond.classLink own ik (exN k) :: Cond.initialized (exN k) :: vx_atS own ic (exN k) ["java/lang/RuntimeException", "java/lang/Exception"], w ∈ GW ∨ w ∈ NW := fun w h9 => by
    rcases List.mem_cons.mp h9 with q | h9
    · rw [q]; exact Or.inl kL
    · rcases List.mem_cons.mp h9 with q | h9
      · rw [q]; exact Or.inl kN
      · exact hw w h9
  exact vx_throwS (cls := exN k) (names := ["java/lang/RuntimeException", "java/lang/Exception"]) X.x X.b hst X.ow (exF k) (by decide +kernel) (X.ts _ kL) (X.ts _ kN) hz (fun w h9 => (hw w h9).elim (X.ts w) X.nw) (fun w h9 => (hgood w h9).elim (fun q => by unfold vx_ot; rw [gw_good q]; exact Bool.or_true _) nw_ot) X.z.2.2.2.1 X.z.2.2.2.2.1 hH.2.1 (hls.trans X.1.2.2.1.symm) d0 d3 d4 d6 d9 (fun x hx => (hno x hx).elim) hR.1 (by simpa using hR.2.1) hR.2.2.1 hR.2.2.2 hlk
    (fun t _ f1 f2 => ⟨(exN k, h), hp, ⟨rfl, (mr_kept hH f1 f2).1⟩, (mr_kept hH f1 f2).2⟩) hH.2.1.2.2 hc hs
theorem mr_throwSW (X : mX G p m c cc nL s args own) (hno : ∀ x ∈ c.exceptionTable.toList, False) (hlk : meth.locks = false) (hls : ls.size = nL) (hst : l.stackTraces = false) (hH : mH G h s.heap H locs) (k : Nat) {ik is ic : Nat} (i : Nat) (hi : i < sTab.length) (h1 : (sEnt i).1 = own) (h2 : (sEnt i).2.1 = is) (hw : exT own ic k) (kL : Cond.classLink own ik (exN k) ∈ GW) (kN : Cond.initialized (exN k) ∈ GW)
    (d0 : decode cc pc = .ok (.new ik, 3)) (d3 : decode cc (pc + 3) = .ok (.dup, 1)) (d4 : decode cc (pc + 4) = .ok (.ldc_w is, 3)) (d6 : decode cc (pc + 7) = .ok (.invokespecial ic, 3)) (d9 : decode cc (pc + 10) = .ok (.athrow, 1))
    (hR : 5 < R.frames ∧ (rest.map fun v => v.category).sum + 82 ≤ R.locals ∧ cells + 1 ≤ R.cells ∧ slots + 6 ≤ R.slots) (hc : cells + 1 ≤ mc) (hs : slots + 6 ≤ ms) (hp : px (exN k) h) :
    W p l e R s m args below meth c H locs cells slots (vx_MQ below Qc (mXX G px) args s mc ms (mA G)) (F0 m pc ls rest) := by
  have hz := (X.z.1 i hi).1
  rw [h1, h2] at hz
  have hgood : ∀ w ∈ Cond.classLink own ik (exN k) :: Cond.initialized (exN k) :: vx_atS own ic (exN k) ["java/lang/RuntimeException", "java/lang/Exception"], w ∈ GW ∨ w ∈ NW := fun w h9 => by
    rcases List.mem_cons.mp h9 with q | h9
    · rw [q]; exact Or.inl kL
    · rcases List.mem_cons.mp h9 with q | h9
      · rw [q]; exact Or.inl kN
      · exact hw w h9
  exact vx_throwSW (cls := exN k) (names := ["java/lang/RuntimeException", "java/lang/Exception"]) X.x X.b hst X.ow (exF k) (by decide +kernel) (X.ts _ kL) (X.ts _ kN) hz (fun w h9 => (hw w h9).elim (X.ts w) X.nw) (fun w h9 => (hgood w h9).elim (fun q => by unfold vx_ot; rw [gw_good q]; exact Bool.or_true _) nw_ot) X.z.2.2.2.1 X.z.2.2.2.2.1 hH.2.1 (hls.trans X.1.2.2.1.symm) d0 d3 d4 d6 d9 (fun x hx => (hno x hx).elim) hR.1 (by simpa using hR.2.1) hR.2.2.1 hR.2.2.2 hlk
    (fun t _ f1 f2 => ⟨(exN k, h), hp, ⟨rfl, (mr_kept hH f1 f2).1⟩, (mr_kept hH f1 f2).2⟩) hH.2.1.2.2 hc hs
end THREE
/-- a contract that may throw, out of a walk of the body -/
theorem xp_of {y : MethodName} {mL : Nat} {ret : Option FieldType} {rm : Room} {av : List Value} {Qc : Array Value → State → Outcome → State → Prop} {px : String → mM → Prop} (hy : plainName y.cls = true) (hlen : (lg_sl av).length ≤ mL)
    (body : ∀ (p : Program) (e : Env) (s : State) (m : MethodId) (below : List Frame) (meth : Method) (c : Code), mX G p m c cc mL s av.toArray y.cls → meth.sig.returnType = ret → meth.locks = false → (∀ x ∈ c.exceptionTable.toList, False) → mH G h s.heap s.heap [] → ∀ ls : Array Slot, lv_has ls mL (lv_args 0 av) →
      W p l e rm s m av.toArray below meth c s.heap [] 0 0 (vx_MQ below Qc (mXX G px) av.toArray s rm.cells rm.slots (mA G)) (F0 m 0 ls [])) : xQ l G y cc mL ret rm av h Qc px := by
  refine vx_ofW (cc := cc) (maxL := mL) (ret := ret) hy rfl ?_
  intro p e s m args below meth c s₁ B hml hno hv
  obtain ⟨rfl, hI, hK, hsz, hZ⟩ := hv
  have hts := atoms_spec (ws := Cond.code y cc mL ret :: GW) B.pre
  have hl := lv_entry av (n := mL) hlen
  rw [lg_entry_eq]
  exact body p e s m below meth c ⟨⟨B.exec, B.bytes, hml, findClass_of_methodNamed B.named, fun w hw => hts w (List.mem_cons_of_mem _ hw)⟩, hK.1, hK.2, hZ⟩ B.returns B.notSynchronized hno ⟨hI, va_S.rf, hsz⟩ _ hl
end MX
