/-! all the calls agree -/
theorem ag_all {l : Launch} {G : mG} {a b ao : Nat} (hst : l.stackTraces = false) : AgAll l G (LJ G a b ao) a b ao :=
  ⟨(by first | exact ag_feed | exact ag_feed hst), (by first | exact ag_world | exact ag_world hst), (by first | exact ag_fault | exact ag_fault hst), (by first | exact ag_line | exact ag_line hst), (by first | exact ag_through | exact ag_through hst), (by first | exact ag_joined | exact ag_joined hst), (by first | exact ag_near | exact ag_near hst), (by first | exact ag_across | exact ag_across hst), (by first | exact ag_spanned | exact ag_spanned hst), (by first | exact ag_hyper | exact ag_hyper hst), (by first | exact ag_regular | exact ag_regular hst), (by first | exact ag_own | exact ag_own hst), (by first | exact ag_law | exact ag_law hst), (by first | exact ag_order | exact ag_order hst), (by first | exact ag_meets | exact ag_meets hst), (by first | exact ag_even | exact ag_even hst), (by first | exact ag_evens | exact ag_evens hst), (by first | exact ag_tight | exact ag_tight hst), (by first | exact ag_ovoid | exact ag_ovoid hst), (by first | exact ag_ovoids | exact ag_ovoids hst), (by first | exact ag_spread | exact ag_spread hst), (by first | exact ag_spreads | exact ag_spreads hst), (by first | exact ag_cap | exact ag_cap hst), (by first | exact ag_triads | exact ag_triads hst), (by first | exact ag_walks | exact ag_walks hst), (by first | exact ag_far | exact ag_far hst), (by first | exact ag_widest | exact ag_widest hst), (by first | exact ag_ring | exact ag_ring hst), (by first | exact ag_parts | exact ag_parts hst), (by first | exact ag_rank | exact ag_rank hst), (by first | exact ag_code | exact ag_code hst), (by first | exact ag_turnings | exact ag_turnings hst), (by first | exact ag_orbit | exact ag_orbit hst), (by first | exact ag_like | exact ag_like hst), (by first | exact ag_add | exact ag_add hst), (by first | exact ag_drop | exact ag_drop hst), (by first | exact ag_dual | exact ag_dual hst), (by first | exact ag_left | exact ag_left hst), (by first | exact ag_undo | exact ag_undo hst), (by first | exact ag_again | exact ag_again hst), (by first | exact ag_perform | exact ag_perform hst), (by first | exact ag_tray | exact ag_tray hst), (by first | exact ag_write | exact ag_write hst), (by first | exact ag_pour | exact ag_pour hst), (by first | exact ag_image | exact ag_image hst), (by first | exact ag_restore | exact ag_restore hst), (by first | exact ag_count | exact ag_count hst)⟩
/-! THE CLAIM OUT OF ONE WALK OF THE LAW'S BODY. Your part is whole_start (and what it stands on); all else here is the same for every law, but numbers. -/
def R_law : String := "NoThreesLaw"
def lw_P (b : Addr) (xs : List Int32) (args : Array Value) (s : State) : Prop := args = #[.ref b] ∧ s.IntsAt b xs ∧ xs.length ≤ 3072 ∧ (Jvm.Cond.and given_1 narrow_1).before args s = true
def lw_Q (_ : Array Value) (s : State) (o : Outcome) (t : State) : Prop := o = .returned (some (.int 1)) ∧ Framed s o t [] 601024 7293034
def lw_Z (below : List Frame) (a : Array Value) (s : State) : State → Prop := fun t => ∃ o, t.status = .running ∧ Ended t below o ∧ lw_Q a s o t
/-- the law's own end, with 1 on the stack, nothing written that was there before, its room as the claim has it -/
theorem lw_ret {p : Program} {l : Launch} {e : Env} {s : State} {m : MethodId} {below : List Frame} {meth : Method} {c : Code} {b : Nat} (hx : p.tables.exec = Jvm.exec) (hb : c.code = code) (hr : meth.sig.returnType = ret) (hlocks : meth.locks = false) {pc : Nat} {H : Heap} {ls : Array Slot} (hdg : decode code pc = .ok (.ireturn, 1)) : W p l e room_1 s m #[Value.ref b] below meth c H [] 601024 7293034 (lw_Z below #[Value.ref b] s) (F0 m pc ls [.int 1]) := by
  intro T hT X
  obtain ⟨fs, hret, hrun, hended, hW, hframe⟩ := X.leave (v := some (.int 1)) (hlocks := hlocks) (fun h => by rw [hr] at h; cases h)
  have hmeth' : T.vm.method? m = some meth := X.method'
  refine ⟨T.setFrames fs, ?_, .returned (some (.int 1)), hrun, hended, rfl, ⟨_, rfl⟩, hW, hframe⟩
  jvm_step X.here [X.here.top, hx, hb, hdg, hmeth', hr, ret, narrow_b1]
  (try refine ⟨rfl, ?_⟩); (try refine ⟨rfl, ?_⟩)
  first | (intro acts; rw [hret _ acts rfl rfl rfl]) | rw [hret _ _ rfl rfl rfl]
  exact Steps.refl _
/-- what holds at the law's entry: the machine, the code, the tables' words (any of lw_tbl by 'hts w (by decide +kernel)'), the script of L ints xs at the cell b, what the Statement gives of the start (any of its parts by flat_of_before) -/
def lw_At (p : Program) (s : State) (m : MethodId) (meth : Method) (c : Code) (b L : Nat) (xs : Nat → Int32) : Prop :=
  p.tables.exec = Jvm.exec ∧ c.code = code ∧ meth.sig.returnType = ret ∧ c.maxLocals = 8 ∧ s.vm.findClass R_law = some m.cls ∧ (∀ w ∈ lw_tbl, w.before #[Value.ref b] s = true) ∧ va_X b L xs s s.heap ∧ b < s.heap.size ∧ meth.locks = false ∧ (Jvm.Cond.and given_1 narrow_1).before #[Value.ref b] s = true
/-! what stands at the entry -/
def strA (e : String × Nat × String × List Int32) : List Cond := [Cond.exactly (.string e.1 e.2.1) "java/lang/String", Cond.eq (.field (.string e.1 e.2.1) "java/lang/String" "coder" "B") (.int 0), Cond.arrayOf (.field (.string e.1 e.2.1) "java/lang/String" "value" "[B") .byte, Cond.eq (.length (.field (.string e.1 e.2.1) "java/lang/String" "value" "[B")) (.int (Int32.ofNat e.2.2.2.length))] ++ (List.range e.2.2.2.length).map (fun j => Cond.eq (.elem (.field (.string e.1 e.2.1) "java/lang/String" "value" "[B") (.int (Int32.ofNat j))) (.int (e.2.2.2.getD j 0)))
def strAll : List Cond := (List.range 27).flatMap (fun i => strA (sEnt i) ++ if i < 21 then [] else [Cond.eq (.string (sEnt (i - 20)).1 (sEnt (i - 20)).2.1) (.string (sEnt i).1 (sEnt i).2.1)])
theorem str_flat : (flatC (Jvm.Cond.and given_1 narrow_1)).drop 99 = strAll := by decide +kernel
theorem str_mem {i : Nat} (hi : i < 27) {c : Cond} (hc : c ∈ strA (sEnt i)) : c ∈ flatC (Jvm.Cond.and given_1 narrow_1) :=
  List.mem_of_mem_drop (i := 99) (by rw [str_flat]; exact List.mem_flatMap.mpr ⟨i, List.mem_range.mpr hi, List.mem_append_left _ hc⟩)
theorem str_27 : sTab.length = 27 := by decide +kernel
theorem str_len : ∀ i, i < 27 → (sEnt i).2.2.2.length < 2 ^ 31 := by decide +kernel
theorem sEnt_in {i : Nat} (hi : i < 27) : sEnt i ∈ sTab := by
  unfold sEnt
  rw [List.getD_eq_getElem?_getD, List.getElem?_eq_getElem (by rw [str_27]; exact hi)]
  exact List.getElem_mem _
theorem str_at {args : Array Value} {s : State} {A : Nat → Prop} (hts : ∀ w ∈ lw_tbl, w.before args s = true) (hs : ∀ c ∈ flatC (Jvm.Cond.and given_1 narrow_1), c.before args s = true) (hA : ∀ a : Nat, a < s.heap.size → ¬ A a) (i : Nat) : ∃ q : Nat × Nat, i < 27 → vk_R (sEnt i).1 (sEnt i).2.1 (sEnt i).2.2.1 q.1 s ∧ va_O "java/lang/String" q.1 A s s.heap ∧ va_OF "java/lang/String" "coder" "B" (.int 0) q.1 A s s.heap ∧ va_OF "java/lang/String" "value" "[B" (.ref q.2) q.1 A s s.heap ∧ va_T .byte q.2 (sLen i) (fun j => .int (sByt i j)) A s s.heap := by
  by_cases hi : i < 27
  · have hm : ∀ c, c ∈ strA (sEnt i) → c.before args s = true := fun c hc => hs c (str_mem hi hc)
    have hr : (Cond.stringRef (sEnt i).1 (sEnt i).2.1 (sEnt i).2.2.1).before args s = true := hts _ (List.mem_append_right _ (sTab_in _ (sEnt_in hi)))
    obtain ⟨a, c, cA, kA, q1, -⟩ := Cond.exactly_spec (args := args) (first := s) (o := none) (s := s) (idx := []) (t := .string (sEnt i).1 (sEnt i).2.1) (cls := "java/lang/String") (hm _ (by simp [strA]))
    have hel : ∀ j : Nat, j < sLen i → (Cond.eq (.elem (.field (.string (sEnt i).1 (sEnt i).2.1) "java/lang/String" "value" "[B") (.int (Int32.ofNat j))) (.int (sByt i j))).before args s = true := fun j hj => hm _ (List.mem_append_right _ (List.mem_map.mpr ⟨j, List.mem_range.mpr hj, rfl⟩))
    obtain ⟨t, ht, hT⟩ := va_Tof (f := fun j => .int (sByt i j)) (A := A) (str_len i hi) (hm (Cond.arrayOf (.field (.string (sEnt i).1 (sEnt i).2.1) "java/lang/String" "value" "[B") .byte) (by simp [strA])) (va_eqt (hm (Cond.eq (.length (.field (.string (sEnt i).1 (sEnt i).2.1) "java/lang/String" "value" "[B")) (.int (Int32.ofNat (sEnt i).2.2.2.length))) (by simp [strA]))) (fun j hj => va_eqt (hel j hj)) hA
    exact ⟨(a, t), fun _ => ⟨vk_R.of hr q1, va_Oof (hm _ (by simp [strA])) q1 hA, vk_OFof q1 (va_eqt (hm (Cond.eq (.field (.string (sEnt i).1 (sEnt i).2.1) "java/lang/String" "coder" "B") (.int 0)) (by simp [strA]))) hA, vk_OFof q1 ht hA, hT⟩⟩
  · exact ⟨(0, 0), fun z => absurd z hi⟩
theorem cls_key {args : Array Value} {s : State} (ht : ∀ w ∈ GW, w.before args s = true) {c : Nat} {C : String} {T : u_T} {N : Nat} (h1 : ∀ w ∈ u_ws C T N, w ∈ GW) (h2 : Cond.instantiable C N ∈ GW) (h3 : vwCl[c]? = some (C, T, N)) : ∃ (cC : ClassId) (iS : Nat → Nat), ∀ q, vwCl[c]? = some q → u_Kn s q.1 q.2.1 q.2.2 cC iS := by
  obtain ⟨cC, iS, h⟩ := u_known ht h1 (ht _ h2)
  exact ⟨cC, iS, fun q hq => by
    rw [h3] at hq
    have e := Option.some.inj hq
    subst e
    exact h⟩
theorem cls_at {args : Array Value} {s : State} (ht : ∀ w ∈ GW, w.before args s = true) (c : Nat) : ∃ (cC : ClassId) (iS : Nat → Nat), ∀ q, vwCl[c]? = some q → u_Kn s q.1 q.2.1 q.2.2 cC iS := by
  match c with
  | 0 => exact cls_key ht hinX0 kB_X0 rfl
  | 1 => exact cls_key ht hinX1 kB_X1 rfl
  | 2 => exact cls_key ht hinX3 kB_X3 rfl
  | 3 => exact cls_key ht hinX4 kB_X4 rfl
  | 4 => exact cls_key ht hinX5 kB_X5 rfl
  | 5 => exact cls_key ht hinX7 kB_X7 rfl
  | 6 => exact cls_key ht hinX8 kB_X8 rfl
  | 7 => exact cls_key ht hinX9 kB_X9 rfl
  | 8 => exact cls_key ht hinX10 kB_X10 rfl
  | 9 => exact cls_key ht hinX11 kB_X11 rfl
  | 10 => exact cls_key ht hinX12 kB_X12 rfl
  | n + 11 => exact ⟨0, fun _ => 0, fun q hq => by cases hq⟩
theorem arr_at {args : Array Value} {s : State} {ty : FieldType} (hty : ∀ cA, s.vm.findClass ("[" ++ ty.toString) = some cA → va_RA s cA ty) (h : (Cond.arrayClass ty).before args s = true) : ∃ cA, ArrOfT s cA ty ∧ va_RA s cA ty := by
  obtain ⟨cA, kA, comp, h1, h2, h3⟩ := Cond.arrayClass_spec h
  exact ⟨cA, fun n z => ⟨(fun k e => by cases e), kA, h2, comp, h3⟩, hty _ h1⟩
theorem arr_ob {args : Array Value} {s : State} {C : String} (h : (Cond.arrayOver (.object C)).before args s = true) : ∃ cA, ArrOfT s cA (.object C) ∧ va_RA s cA (.object C) := by
  obtain ⟨comp, cA, kA, h1, -, h2, h3, h4⟩ := Cond.arrayOver_spec h
  exact ⟨cA, fun n z => ⟨(fun k e => by cases e), kA, h2, comp, h3⟩, kA, comp, h2, h3, h1, h4⟩
theorem nw_on {w : Cond} (h : isNest w = true) : w.onTables = true := by
  cases w <;> first | rfl | cases h
theorem mx_0 {p : Program} {s : State} {m : MethodId} {meth : Method} {c : Code} {b L : Nat} {xs : Nat → Int32} (C0 : lw_At p s m meth c b L xs) : ∃ G : mG, G.2.2 = s.heap.size ∧ mX G p m c code 8 s #[.ref b] RL := by
  obtain ⟨h1, h2, h3, h4, h5, hts, hX, hb, hlk, hgv⟩ := C0
  have hs := flat_of_before _ hgv
  have ht : ∀ w ∈ GW, w.before #[.ref b] s = true := fun w hw => hts w (gw_tbl hw)
  have hA : ∀ a : Nat, a < s.heap.size → ¬ (fun q => s.heap.size ≤ q) a := fun a ha z => Nat.not_lt.mpr z ha
  obtain ⟨dC, g1⟩ := Classical.axiomOfChoice (cls_at ht)
  obtain ⟨dI, g2⟩ := Classical.axiomOfChoice g1
  obtain ⟨f, hf⟩ := Classical.axiomOfChoice (str_at (A := fun q => s.heap.size ≤ q) hts hs hA)
  obtain ⟨a0, e0⟩ := arr_at (s := s) (ty := .int) (fun _ z => z) (ht _ kA_FieldTypeint)
  obtain ⟨a1, e1⟩ := arr_at (s := s) (ty := .long) (fun _ z => z) (ht _ kA_FieldTypelong)
  obtain ⟨a2, e2⟩ := arr_at (s := s) (ty := .byte) (fun _ z => z) (ht _ kA_FieldTypebyte)
  obtain ⟨a3, e3⟩ := arr_at (s := s) (ty := .boolean) (fun _ z => z) (ht _ kA_FieldTypeboolean)
  have o4 : (Cond.arrayOver (.object "NoThrees$World")).before #[.ref b] s = true := hts _ (by decide +kernel)
  have o5 : (Cond.arrayOver (.object "NoThrees$Tray")).before #[.ref b] s = true := hts _ (by decide +kernel)
  obtain ⟨a4, e4⟩ := arr_ob o4
  obtain ⟨a5, e5⟩ := arr_ob o5
  refine ⟨((dC, dI), fun k => if k = 0 then a0 else if k = 1 then a1 else if k = 2 then a2 else if k = 3 then a3 else if k = 4 then a4 else if k = 5 then a5 else if k < 200 then (f (k - 100)).1 else (f (k - 200)).2, s.heap.size), rfl, ⟨h1, h2, h4, h5, ht⟩, ⟨g2, fun k q hq => ?_⟩, fun w hw => va_Nw.of (nw_on (List.mem_filter.mp hw).2) (hts w (nw_tbl hw)), ?_⟩
  · match k, hq with
    | 0, hq => cases hq; exact e0
    | 1, hq => cases hq; exact e1
    | 2, hq => cases hq; exact e2
    | 3, hq => cases hq; exact e3
    | 4, hq => cases hq; exact e4
    | 5, hq => cases hq; exact e5
    | n + 6, hq => cases hq
  · refine ⟨fun i hi => ?_, va_Zof (hts _ (by decide +kernel)) (hts _ (by decide +kernel)) (va_eqi (hs _ (by decide +kernel))) hA, va_Zqof (hts _ (by decide +kernel)) (hts _ (by decide +kernel)) (hs _ (by decide +kernel)) hA, vx_Zqof (hts _ (by decide +kernel)) (hts _ (by decide +kernel)) (hs _ (by decide +kernel)) hA, vx_Zqof (hts _ (by decide +kernel)) (hts _ (by decide +kernel)) (hs _ (by decide +kernel)) hA, va_AO.of o4, va_AO.of o5, va_Nc.of (hs _ (by decide +kernel)), va_Nc.of (hs _ (by decide +kernel)), va_Nc.of (hs _ (by decide +kernel)), va_Nc.of (hs _ (by decide +kernel))⟩
    have hi : i < 27 := by rw [← str_27]; exact hi
    have q1 : ∀ G : mG, G.2.1 = (fun k => if k = 0 then a0 else if k = 1 then a1 else if k = 2 then a2 else if k = 3 then a3 else if k = 4 then a4 else if k = 5 then a5 else if k < 200 then (f (k - 100)).1 else (f (k - 200)).2) → sAd G i = (f i).1 ∧ sBd G i = (f i).2 := fun G hG => by
      unfold sAd sBd
      rw [hG]
      refine ⟨?_, ?_⟩
      · show (if 100 + i = 0 then a0 else if 100 + i = 1 then a1 else if 100 + i = 2 then a2 else if 100 + i = 3 then a3 else if 100 + i = 4 then a4 else if 100 + i = 5 then a5 else if 100 + i < 200 then (f (100 + i - 100)).1 else (f (100 + i - 200)).2) = _
        rw [if_neg (by omega), if_neg (by omega), if_neg (by omega), if_neg (by omega), if_neg (by omega), if_neg (by omega), if_pos (by omega), show 100 + i - 100 = i by omega]
      · show (if 200 + i = 0 then a0 else if 200 + i = 1 then a1 else if 200 + i = 2 then a2 else if 200 + i = 3 then a3 else if 200 + i = 4 then a4 else if 200 + i = 5 then a5 else if 200 + i < 200 then (f (200 + i - 100)).1 else (f (200 + i - 200)).2) = _
        rw [if_neg (by omega), if_neg (by omega), if_neg (by omega), if_neg (by omega), if_neg (by omega), if_neg (by omega), if_neg (by omega), show 200 + i - 200 = i by omega]
    have h := hf i hi
    unfold sS
    rw [(q1 _ rfl).1, (q1 _ rfl).2]
    exact h
