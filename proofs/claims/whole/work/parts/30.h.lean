/-! the law's helpers: methods with handlers -/
section HM
variable {p : Program} {l : Launch} {e : Env} {R : Room} {s : State} {m : MethodId} {args : Array Value} {below : List Frame} {meth : Method} {c : Code} {H : Heap} {locs : List Loc} {cells slots : Nat} {Q : State → Prop}
variable {cc : ByteArray} {nL pc : Nat} {ls : Array Slot} {rest : List Value} {G : mG} {h : mM} {own : String} {a : Nat}
def hQ (l : Launch) (G : mG) (y : MethodName) (cc : ByteArray) (mL : Nat) (ret : Option FieldType) (hh : List (Nat × Nat × Nat × Nat)) (rm : Room) (av : List Value) (h : mM) (Qc : Array Value → State → Outcome → State → Prop) : Prop :=
  vx_Met l y (Cond.codeWith y cc mL ret hh :: GW) rm (mPc G av h) Qc (mXX G (fun _ _ => False)) rm.cells rm.slots (mA G)
theorem hp_of {y : MethodName} {mL : Nat} {ret : Option FieldType} {hh : List (Nat × Nat × Nat × Nat)} {rm : Room} {av : List Value} {Qc : Array Value → State → Outcome → State → Prop} (hy : plainName y.cls = true) (hlen : (lg_sl av).length ≤ mL)
    (body : ∀ (p : Program) (e : Env) (s : State) (m : MethodId) (below : List Frame) (meth : Method) (c : Code), mX G p m c cc mL s av.toArray y.cls → meth.sig.returnType = ret → meth.locks = false → c.exceptionTable.toList = tableOf hh → mH G h s.heap s.heap [] → ∀ ls : Array Slot, lv_has ls mL (lv_args 0 av) →
      W p l e rm s m av.toArray below meth c s.heap [] 0 0 (vx_MQ below Qc (mXX G (fun _ _ => False)) av.toArray s rm.cells rm.slots (mA G)) (F0 m 0 ls [])) : hQ l G y cc mL ret hh rm av h Qc := by
  refine vx_ofWH (cc := cc) (maxL := mL) (ret := ret) (hh := hh) hy rfl ?_
  intro p e s m args below meth c s₁ B hml hv
  obtain ⟨rfl, hI, hK, hsz, hZ⟩ := hv
  have hts := atoms_spec (ws := Cond.codeWith y cc mL ret hh :: GW) B.pre
  have hl := lv_entry av (n := mL) hlen
  rw [lg_entry_eq]
  exact body p e s m below meth c ⟨⟨B.exec, B.bytes, hml, findClass_of_methodNamed B.named, fun w hw => hts w (List.mem_cons_of_mem _ hw)⟩, hK.1, hK.2, hZ⟩ B.returns B.notSynchronized (vx_table (x := y) B (hts _ List.mem_cons_self)) ⟨hI, va_S.rf, hsz⟩ _ hl
theorem gw_goodInW {y : MethodName} {cb : ByteArray} {mL : Nat} {ret : Option FieldType} {hh : List (Nat × Nat × Nat × Nat)} (k : Cond.codeWith y cb mL ret hh ∈ GW) : GoodIn GW (Cond.codeWith y cb mL ret hh :: GW) := by
  intro w hw
  rcases List.mem_cons.mp hw with q | q
  · subst q
    exact ⟨k, good_of_word (gw_good k)⟩
  · exact ⟨q, good_of_word (gw_good q)⟩
/-- a call of such a method -/
theorem mr_hrunS {y : MethodName} {cb : ByteArray} {mL idx n : Nat} {ret : Option FieldType} {hh : List (Nat × Nat × Nat × Nat)} {rm : Room} {As : List Value} {Qc : Array Value → State → Outcome → State → Prop} (X : mX G p m c cc nL s args own) (hH : mH G h s.heap H locs) (hM : hQ l G y cb mL ret hh rm As h Qc) (k1 : Cond.methodLink own idx y ∈ GW) (k2 : Cond.static y ∈ GW) (k3 : Cond.initialized y.cls ∈ GW) (k4 : Cond.codeWith y cb mL ret hh ∈ GW) (hd : mHd y n) (hR : rm.frames + 1 ≤ R.frames ∧ 8 + (mL + 11) + rm.locals ≤ R.locals) (hn : As.length = n) (hls : ls.size = nL) (hw : (rest.map fun v => v.category).sum ≤ 8) (hdg : decode cc pc = .ok (.invokestatic idx, 3)) (hf : cells + rm.cells ≤ R.cells ∧ slots + rm.slots ≤ R.slots) :
    vx_Run p l e R s m args below meth c H locs cells slots rm.cells rm.slots (F0 m pc ls (As.reverse ++ rest)) rest (Qc As.toArray) (mXX G (fun _ _ => False)) (mA G) :=
  vx_runSX (n := n) X.1 hM ⟨⟨rfl, rfl, hR.1, hR.2, pay_in X.ts (gw_goodInW k4), List.mem_cons_self⟩, X.ts _ k4, X.ts _ k3, ⟨hd.1, hd.2.1⟩, fun sig h9 => by
    have h2 := hd.2.2
    rw [h9] at h2
    exact (Option.some.inj h2).symm, X.ts _ k1, X.ts _ k2⟩ ⟨mPc_blind As, fun _ hU hW => mPc_at X hH hU hW⟩ rfl hn hls rfl (lv_room hw) hdg hf
/-- a throw is caught by a row of the method's table -/
theorem mr_catch {hh : List (Nat × Nat × Nat × Nat)} (X : mX G p m c cc nL s args own) (htab : c.exceptionTable.toList = tableOf hh) {E : String} {q : Addr} (hth : mTh s H q E) (pre : List (Nat × Nat × Nat × Nat)) (x : Nat × Nat × Nat × Nat) (suf : List (Nat × Nat × Nat × Nat)) (hs : hh = pre ++ x :: suf)
    (hpass : ∀ z ∈ pre, z.2.2.2 ≠ 0 ∧ ∃ nm : String, Cond.classLink own z.2.2.2 nm ∈ GW ∧ va_Nc E nm s) (hcov : covers ⟨x.1, x.2.1, x.2.2.1, x.2.2.2⟩ pc = true) (h0 : x.2.2.2 ≠ 0) {nm : String} (hlink : Cond.classLink own x.2.2.2 nm ∈ GW) (hcast : Cond.castable E nm ∈ NW)
    (kk : W p l e R s m args below meth c H locs cells slots Q (F0 m x.2.2.1 ls [.ref q])) : vx_W p l e R s m args below meth c H locs cells slots Q (F0 m pc ls rest) q := by
  obtain ⟨ce, h1, h2, h3⟩ := hth
  refine vx_catch (own := own) (name := nm) X.ow (tableOf pre) ⟨x.1, x.2.1, x.2.2.1, x.2.2.2⟩ (tableOf suf) (by rw [htab, hs]; unfold tableOf; rw [List.map_append, List.map_cons]) ?_ hcov h0 (X.ts _ hlink) (X.nw hcast) h1 h2 h3 kk
  intro z hz
  obtain ⟨y, hy, rfl⟩ := List.mem_map.mp hz
  obtain ⟨g1, nm2, g2, g3⟩ := hpass y hy
  exact Or.inr ⟨g1, nm2, X.ts _ g2, g3⟩
end HM
theorem kW_L_world : Cond.codeWith yL_world cL_world 4 (some FieldType.int) [(0, 9, 12, 13)] ∈ GW := tW4 10 rfl rfl
theorem kX_1 : Cond.castable (exN 1) (exN 1) ∈ NW := tN4 18 rfl rfl
theorem kW_L_line : Cond.codeWith yL_line cL_line 4 (some FieldType.int) [(0, 8, 11, 19)] ∈ GW := tW5 1 rfl rfl
theorem kX_0 : Cond.castable (exN 0) (exN 0) ∈ NW := tN5 17 rfl rfl
theorem kW_L_through : Cond.codeWith yL_through cL_through 4 (some FieldType.int) [(0, 8, 11, 19)] ∈ GW := tW5 34 rfl rfl
theorem kW_L_joined : Cond.codeWith yL_joined cL_joined 5 (some FieldType.int) [(0, 10, 13, 19)] ∈ GW := tW5 48 rfl rfl
theorem kW_L_near : Cond.codeWith yL_near cL_near 4 (some FieldType.int) [(0, 8, 11, 19)] ∈ GW := tW5 56 rfl rfl
theorem kW_L_across : Cond.codeWith yL_across cL_across 5 (some FieldType.int) [(0, 8, 11, 13)] ∈ GW := tW5 64 rfl rfl
theorem kW_L_spanned : Cond.codeWith yL_spanned cL_spanned 5 (some FieldType.int) [(0, 8, 11, 13)] ∈ GW := tW5 83 rfl rfl
theorem kW_L_hyper : Cond.codeWith yL_hyper cL_hyper 5 (some FieldType.int) [(0, 9, 12, 19)] ∈ GW := tW5 95 rfl rfl
theorem kW_L_regular : Cond.codeWith yL_regular cL_regular 5 (some FieldType.int) [(0, 17, 20, 19)] ∈ GW := tW5 107 rfl rfl
theorem kW_L_own : Cond.codeWith yL_own cL_own 5 (some FieldType.int) [(0, 10, 13, 13)] ∈ GW := tW5 115 rfl rfl
theorem kW_L_meets : Cond.codeWith yL_meets cL_meets 6 (some FieldType.int) [(0, 11, 14, 19), (0, 11, 18, 13)] ∈ GW := tW5 131 rfl rfl
theorem kW_L_even : Cond.codeWith yL_even cL_even 5 (some FieldType.int) [(0, 9, 12, 13)] ∈ GW := tW5 138 rfl rfl
theorem kW_L_tight : Cond.codeWith yL_tight cL_tight 5 (some FieldType.int) [(0, 9, 12, 13)] ∈ GW := tW5 148 rfl rfl
theorem kW_L_walks : Cond.codeWith yL_walks cL_walks 4 (some FieldType.int) [(0, 9, 12, 13)] ∈ GW := tW5 158 rfl rfl
theorem kW_L_far : Cond.codeWith yL_far cL_far 5 (some FieldType.int) [(0, 10, 13, 19)] ∈ GW := tW5 180 rfl rfl
theorem kW_L_rank : Cond.codeWith yL_rank cL_rank 4 (some FieldType.int) [(0, 9, 12, 13)] ∈ GW := tW5 190 rfl rfl
theorem kW_L_code : Cond.codeWith yL_code cL_code 4 (some FieldType.int) [(0, 9, 12, 13)] ∈ GW := tW5 223 rfl rfl
theorem kW_L_orbit : Cond.codeWith yL_orbit cL_orbit 4 (some FieldType.int) [(0, 8, 11, 19)] ∈ GW := tW6 7 rfl rfl
theorem kW_L_like : Cond.codeWith yL_like cL_like 4 (some FieldType.int) [(0, 9, 12, 19), (0, 9, 15, 79)] ∈ GW := tW6 15 rfl rfl
theorem kX_2 : Cond.castable (exN 2) (exN 2) ∈ NW := tN6 28 rfl rfl
theorem kW_L_add : Cond.codeWith yL_add cL_add 5 (some FieldType.int) [(0, 9, 12, 13)] ∈ GW := tW6 48 rfl rfl
theorem kW_L_drop : Cond.codeWith yL_drop cL_drop 4 (some FieldType.int) [(0, 8, 11, 19)] ∈ GW := tW6 62 rfl rfl
theorem kW_L_left : Cond.codeWith yL_left cL_left 4 (some FieldType.int) [(0, 9, 12, 19)] ∈ GW := tW6 78 rfl rfl
theorem kW_L_perform : Cond.codeWith yL_perform cL_perform 4 (some FieldType.int) [(0, 9, 12, 19), (0, 9, 15, 79)] ∈ GW := tW6 96 rfl rfl
theorem kW_L_tray : Cond.codeWith yL_tray cL_tray 5 (some FieldType.int) [(0, 7, 10, 19), (0, 7, 14, 13)] ∈ GW := tW6 130 rfl rfl
theorem kW_L_write : Cond.codeWith yL_write cL_write 7 (some FieldType.int) [(0, 11, 14, 19), (0, 11, 18, 79), (0, 11, 22, 101)] ∈ GW := tW6 160 rfl rfl
theorem kX_3 : Cond.castable (exN 3) (exN 3) ∈ NW := tN6 168 rfl rfl
theorem kW_L_pour : Cond.codeWith yL_pour cL_pour 4 (some FieldType.int) [(0, 9, 12, 19), (0, 9, 15, 79)] ∈ GW := tW6 192 rfl rfl
theorem kW_L_image : Cond.codeWith yL_image cL_image 3 (some FieldType.int) [(0, 5, 8, 19)] ∈ GW := tW6 200 rfl rfl
theorem kW_L_restore : Cond.codeWith yL_restore cL_restore 3 (some FieldType.int) [(0, 5, 8, 19), (0, 5, 11, 79)] ∈ GW := tW6 207 rfl rfl
