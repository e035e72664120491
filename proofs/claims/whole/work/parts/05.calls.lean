/-! contracts over the memory as a map; their calls, starts and ends -/
section MC
variable {p : Program} {l : Launch} {e : Env} {R : Room} {s : State} {m : MethodId} {args : Array Value} {below : List Frame} {meth : Method} {c : Code} {H : Heap} {locs : List Loc} {cells slots : Nat} {Q : State → Prop}
variable {cc : ByteArray} {nL pc : Nat} {ls : Array Slot} {rest : List Value} {G : mG} {h : mM} {own : String} {a : Nat}
def mPc (G : mG) (av : List Value) (h : mM) : Array Value → State → Prop := va_Pc av (fun U => mI G h U.heap ∧ mK G U ∧ G.2.2 ≤ U.heap.size ∧ mZ G U)
def mB (G : mG) : mM → State → Prop := fun h t => mI G h t.heap
abbrev mQi (G : mG) (post : Int32 → mM → Prop) := va_Qi (S := mM) post (mB G) (mA G)
abbrev mQl (G : mG) (post : Int64 → mM → Prop) := va_Ql (S := mM) post (mB G) (mA G)
abbrev mQv (G : mG) (post : mM → Prop) := va_Qv (S := mM) post (mB G) (mA G)
abbrev mQr (G : mG) (post : Nat → mM → Prop) := va_Qr (S := Nat × mM) (fun u => post u.1 u.2) (fun u a t => u.1 = a ∧ mI G u.2 t.heap) (mA G)
/-- a contract: method y, of the code cc, from the memory h with the arguments av -/
def cQ (l : Launch) (G : mG) (y : MethodName) (cc : ByteArray) (mL : Nat) (ret : Option FieldType) (rm : Room) (av : List Value) (h : mM) (Qc : Array Value → State → Outcome → State → Prop) : Prop :=
  Met l y (Cond.code y cc mL ret :: GW) rm (mPc G av h) Qc rm.cells rm.slots (mA G)
theorem mPc_blind (av : List Value) : FrameBlind (mPc G av h) := fun a U g mk q => ⟨q.1, q.2.1, mK.same (u := U) (U := U.calling g mk a) rfl q.2.2.1, q.2.2.2.1, mZ.same (u := U) (U := U.calling g mk a) rfl rfl q.2.2.2.2⟩
theorem gw_goodIn {y : MethodName} {cb : ByteArray} {mL : Nat} {ret : Option FieldType} (k : Cond.code y cb mL ret ∈ GW) : GoodIn GW (Cond.code y cb mL ret :: GW) := by
  intro w hw
  rcases List.mem_cons.mp hw with q | q
  · subst q
    exact ⟨k, good_of_word (gw_good k)⟩
  · exact ⟨q, good_of_word (gw_good q)⟩
theorem mPc_at (X : mX G p m c cc nL s args own) (hH : mH G h s.heap H locs) {As : List Value} {U : State} (hU : U.heap = H) (hW : s.WarmedH U.vm) : mPc G As h As.toArray U :=
  ⟨rfl, by rw [hU]; exact hH.1, mK.warm hW ⟨X.2.1, X.2.2.1⟩, by rw [hU]; exact Nat.le_trans hH.2.2 hH.2.1.1, mZ.warm hW (by rw [hU]; exact hH.2.1.2.1) X.2.2.2⟩
/-- what a call needs to know of a method by its name and descriptor -/
abbrev mHd (y : MethodName) (n : Nat) : Prop := y.cls ≠ "java/lang/invoke/MethodHandle" ∧ y.cls ≠ "java/lang/invoke/VarHandle" ∧ (parseMethodDescriptor y.desc).map (fun d => d.parameters.length) = some n
section ONE
variable {y : MethodName} {cb : ByteArray} {mL idx n : Nat} {ret : Option FieldType} {rm : Room} {As : List Value} {Qc : Array Value → State → Outcome → State → Prop}
theorem mr_runS (X : mX G p m c cc nL s args own) (hH : mH G h s.heap H locs) (hM : cQ l G y cb mL ret rm As h Qc) (k1 : Cond.methodLink own idx y ∈ GW) (k2 : Cond.static y ∈ GW) (k3 : Cond.initialized y.cls ∈ GW) (k4 : Cond.code y cb mL ret ∈ GW) (hd : mHd y n) (hR : rm.frames + 1 ≤ R.frames ∧ 8 + (mL + 11) + rm.locals ≤ R.locals) (hn : As.length = n) (hls : ls.size = nL) (hw : (rest.map fun v => v.category).sum ≤ 8) (hdg : decode cc pc = .ok (.invokestatic idx, 3)) (hf : cells + rm.cells ≤ R.cells ∧ slots + rm.slots ≤ R.slots) :
    va_Run p l e R s m args below meth c H locs cells slots rm.cells rm.slots (F0 m pc ls (As.reverse ++ rest)) rest (Qc As.toArray) (mA G) :=
  va_runS (n := n) X.1 hM ⟨callB_of n X.ts (gw_goodIn k4) rfl rfl rfl (X.ts _ k3) (X.ts _ k1) hd hR, X.ts _ k2⟩ ⟨mPc_blind As, fun _ hU hW => mPc_at X hH hU hW⟩ rfl hn hls rfl (lv_room hw) hdg hf
theorem mr_runV (X : mX G p m c cc nL s args own) (hH : mH G h s.heap H locs) (hM : cQ l G y cb mL ret rm (.ref a :: As) h Qc) {ci : Nat} {fs : List Value} {T : u_T} {N : Nat} (ha : h a = some (.inr (ci, fs))) (hc : vwCl[ci]? = some (y.cls, T, N)) (k1 : Cond.methodLink own idx y ∈ GW) (k2 : Cond.instanceMethod y ∈ GW) (k5 : Cond.selects y.cls y y ∈ GW) (k3 : Cond.initialized y.cls ∈ GW) (k4 : Cond.code y cb mL ret ∈ GW) (hd : mHd y n) (hR : rm.frames + 1 ≤ R.frames ∧ 8 + (mL + 11) + rm.locals ≤ R.locals) (hn : As.length = n) (hls : ls.size = nL) (hw : (rest.map fun v => v.category).sum ≤ 8) (hdg : decode cc pc = .ok (.invokevirtual idx, 3)) (hf : cells + rm.cells ≤ R.cells ∧ slots + rm.slots ≤ R.slots) :
    va_Run p l e R s m args below meth c H locs cells slots rm.cells rm.slots (F0 m pc ls (As.reverse ++ .ref a :: rest)) rest (Qc (Value.ref a :: As).toArray) (mA G) :=
  va_runV (n := n) X.1 hM ⟨callB_of n X.ts (gw_goodIn k4) rfl rfl rfl (X.ts _ k3) (X.ts _ k1) hd hR, X.ts _ k2, X.ts _ k5⟩ ⟨mPc_blind _, va_recv X.2.1 (hH.1.one ha) (q0 := 0) hc rfl, fun _ hU hW => mPc_at X hH hU hW⟩ rfl hn hls rfl (lv_room hw) hdg hf
end ONE
section TWO
variable {st0 : List Value} {aa : Array Value} {mc ms : Nat}
theorem mr_ci (hH : mH G h s.heap H locs) {post : Int32 → mM → Prop} (hr : va_Run p l e R s m args below meth c H locs cells slots mc ms (F0 m pc ls st0) rest (mQi G post aa) (mA G))
    (kk : ∀ (r : Int32) (h1 : mM) (H1 : Heap) (locs1 : List Loc), post r h1 → mH G h1 s.heap H1 locs1 → W p l e R s m args below meth c H1 locs1 (cells + mc) (slots + ms) Q (F0 m (pc + 3) ls (.int r :: rest))) : W p l e R s m args below meth c H locs cells slots Q (F0 m pc ls st0) :=
  va_calli hr hH.2.1 (fun _ _ q => q) (fun _ q => q) (fun r u _ H1 locs1 ht _ hw hB _ _ hS => kk r u H1 locs1 hw ⟨by rw [← ht]; exact hB, hS, hH.2.2⟩)
theorem mr_cl (hH : mH G h s.heap H locs) {post : Int64 → mM → Prop} (hr : va_Run p l e R s m args below meth c H locs cells slots mc ms (F0 m pc ls st0) rest (mQl G post aa) (mA G))
    (kk : ∀ (r : Int64) (h1 : mM) (H1 : Heap) (locs1 : List Loc), post r h1 → mH G h1 s.heap H1 locs1 → W p l e R s m args below meth c H1 locs1 (cells + mc) (slots + ms) Q (F0 m (pc + 3) ls (.long r :: rest))) : W p l e R s m args below meth c H locs cells slots Q (F0 m pc ls st0) :=
  va_calll hr hH.2.1 (fun _ _ q => q) (fun _ q => q) (fun r u _ H1 locs1 ht _ hw hB _ _ hS => kk r u H1 locs1 hw ⟨by rw [← ht]; exact hB, hS, hH.2.2⟩)
theorem mr_cv (hH : mH G h s.heap H locs) {post : mM → Prop} (hr : va_Run p l e R s m args below meth c H locs cells slots mc ms (F0 m pc ls st0) rest (mQv G post aa) (mA G))
    (kk : ∀ (h1 : mM) (H1 : Heap) (locs1 : List Loc), post h1 → mH G h1 s.heap H1 locs1 → W p l e R s m args below meth c H1 locs1 (cells + mc) (slots + ms) Q (F0 m (pc + 3) ls rest)) : W p l e R s m args below meth c H locs cells slots Q (F0 m pc ls st0) :=
  va_callv hr hH.2.1 (fun _ _ q => q) (fun _ q => q) (fun u _ H1 locs1 ht _ hw hB _ _ hS => kk u H1 locs1 hw ⟨by rw [← ht]; exact hB, hS, hH.2.2⟩)
end TWO
theorem mr_iret (X : mX G p m c cc nL s args own) (hr : meth.sig.returnType = some .int) (hlk : meth.locks = false) (hH : mH G h s.heap H locs) {post : Int32 → mM → Prop} {v : Int32} (hp : post v h) (hdg : decode cc pc = .ok (.ireturn, 1)) : W p l e R s m args below meth c H locs cells slots (MQ below (mQi G post) args s cells slots (mA G)) (F0 m pc ls [.int v]) :=
  W.iret X.x X.b hr (fun _ ht _ => ⟨⟨v, h, rfl, hp, show mI G h _ by rw [ht]; exact hH.1⟩, hH.2.1.F ht⟩) hH.2.1.2.2 hdg hlk
theorem mr_zret (X : mX G p m c cc nL s args own) (hr : meth.sig.returnType = some .boolean) (hlk : meth.locks = false) (hH : mH G h s.heap H locs) {post : Int32 → mM → Prop} {v : Int32} (hv : narrow .boolean (.int v) = .int v) (hp : post v h) (hdg : decode cc pc = .ok (.ireturn, 1)) : W p l e R s m args below meth c H locs cells slots (MQ below (mQi G post) args s cells slots (mA G)) (F0 m pc ls [.int v]) :=
  W.zret X.x X.b hr hv (fun _ ht _ => ⟨⟨v, h, rfl, hp, show mI G h _ by rw [ht]; exact hH.1⟩, hH.2.1.F ht⟩) hH.2.1.2.2 hdg hlk
theorem mr_lret (X : mX G p m c cc nL s args own) (hr : meth.sig.returnType = some .long) (hlk : meth.locks = false) (hH : mH G h s.heap H locs) {post : Int64 → mM → Prop} {v : Int64} (hp : post v h) (hdg : decode cc pc = .ok (.lreturn, 1)) : W p l e R s m args below meth c H locs cells slots (MQ below (mQl G post) args s cells slots (mA G)) (F0 m pc ls [.long v]) :=
  W.lret X.x X.b hr (fun _ ht _ => ⟨⟨v, h, rfl, hp, show mI G h _ by rw [ht]; exact hH.1⟩, hH.2.1.F ht⟩) hH.2.1.2.2 hdg hlk
theorem mr_vret (X : mX G p m c cc nL s args own) (hr : meth.sig.returnType = none) (hlk : meth.locks = false) (hH : mH G h s.heap H locs) {post : mM → Prop} (hp : post h) (hdg : decode cc pc = .ok (.return_, 1)) : W p l e R s m args below meth c H locs cells slots (MQ below (mQv G post) args s cells slots (mA G)) (F0 m pc ls []) :=
  W.vret X.x X.b hr (fun _ ht _ => ⟨⟨h, rfl, hp, show mI G h _ by rw [ht]; exact hH.1⟩, hH.2.1.F ht⟩) hH.2.1.2.2 hdg hlk
theorem Met.ofWF {l : Launch} {y : MethodName} {ws ws' : List Cond} {rm : Room} {Pc : Array Value → State → Prop} {Qc : Array Value → State → Outcome → State → Prop} {mc ms : Nat} {free : Addr → Prop} {cc : ByteArray} {maxL : Nat} {ret : Option FieldType}
    (hy : plainFor y = true) (hw : ws = Cond.code y cc maxL ret :: ws')
    (body : ∀ p e s m args below meth c s₁, BodyLoose p l y (headSpec ws rm) cc maxL ret e s m args below meth c s₁ → c.maxLocals = maxL → Pc args s →
      W p l e (headSpec ws rm).room s m args below meth c s.heap [] 0 0 (MQ below Qc args s mc ms free) (entryFrame m args maxL)) : Met l y ws rm Pc Qc mc ms free := by
  refine MetFree.of_bodyRF (code := cc) (maxLocals := maxL) (ret := ret) hy ?_ ?_
  · intro args s m h hn
    obtain ⟨meth, c, h1, h2, h3, h4, h5, h6, -, -⟩ := Cond.code_spec hn (atoms_spec (ws := ws) h _ (by rw [hw]; exact List.mem_cons_self))
    exact ⟨meth, c, h1, h2, h3, h4, h5, h6⟩
  · intro p e s m args below meth c s₁ B hml hP _ hst
    have hh0 : s₁.heap = s.heap := by rw [B.state]; rfl
    obtain ⟨t, a1, o, b1, b2, b3⟩ := body p e s m args below meth c s₁ B hml hP s₁ hh0 (Stand.of_body B)
    exact ⟨t, o, hst.trans a1, b1, b2, ⟨b3.1, b3.2⟩⟩
/-- a method's contract out of a walk of its body -/
theorem mp_of {y : MethodName} {mL : Nat} {ret : Option FieldType} {rm : Room} {av : List Value} {Qc : Array Value → State → Outcome → State → Prop} (hy : plainFor y = true) (hlen : (lg_sl av).length ≤ mL)
    (body : ∀ (p : Program) (e : Env) (s : State) (m : MethodId) (below : List Frame) (meth : Method) (c : Code), mX G p m c cc mL s av.toArray y.cls → meth.sig.returnType = ret → meth.locks = false → mH G h s.heap s.heap [] → meth.name = y.name → ∀ ls : Array Slot, lv_has ls mL (lv_args 0 av) →
      W p l e rm s m av.toArray below meth c s.heap [] 0 0 (MQ below Qc av.toArray s rm.cells rm.slots (mA G)) (F0 m 0 ls [])) : cQ l G y cc mL ret rm av h Qc := by
  refine Met.ofWF (cc := cc) (maxL := mL) (ret := ret) hy rfl ?_
  intro p e s m args below meth c s₁ B hml hv
  obtain ⟨rfl, hI, hK, hsz, hZ⟩ := hv
  have hts := atoms_spec (ws := Cond.code y cc mL ret :: GW) B.pre
  have hl := lv_entry av (n := mL) hlen
  rw [lg_entry_eq]
  exact body p e s m below meth c ⟨⟨B.exec, B.bytes, hml, findClass_of_methodNamed B.named, fun w hw => hts w (List.mem_cons_of_mem _ hw)⟩, hK.1, hK.2, hZ⟩ B.returns B.notSynchronized ⟨hI, va_S.rf, hsz⟩ (name_of_methodNamed B.named B.method).1 _ hl
end MC
