/-! THE MEMORY AS A MAP: a world is a function from addresses to cells; every contract speaks of the whole map, so nothing is cut out and joined again. -/
abbrev mM : Type := Nat → Option va_E
/-- the numbers of the classes, of the array classes (int, long, byte, boolean, World, Tray), and the first address of ours -/
abbrev mG : Type := va_G × (Nat → ClassId) × Nat
def mtys (G : mG) : List (ClassId × FieldType) := [(G.2.1 0, .int), (G.2.1 1, .long), (G.2.1 2, .byte), (G.2.1 3, .boolean), (G.2.1 4, .object "NoThrees$World"), (G.2.1 5, .object "NoThrees$Tray")]
abbrev aI (G : mG) (n : Nat) (f : Nat → Int32) : va_E := .inl (G.2.1 0, n, .inl f)
abbrev aJ (G : mG) (n : Nat) (f : Nat → Int64) : va_E := .inl (G.2.1 1, n, .inr (.inl f))
abbrev aB (G : mG) (n : Nat) (f : Nat → Int32) : va_E := .inl (G.2.1 2, n, .inl f)
abbrev aZ (G : mG) (n : Nat) (f : Nat → Int32) : va_E := .inl (G.2.1 3, n, .inl f)
abbrev aW (G : mG) (n : Nat) (f : Nat → Option Nat) : va_E := .inl (G.2.1 4, n, .inr (.inr (.inr (.inr f))))
abbrev aT (G : mG) (n : Nat) (f : Nat → Option Nat) : va_E := .inl (G.2.1 5, n, .inr (.inr (.inr (.inr f))))
def mI (G : mG) (h : mM) (H : Heap) : Prop := ∀ (a : Nat) (e : va_E), h a = some e → va_at G.1 vwCl (a, e) H ∧ G.2.2 ≤ a
def mA (G : mG) : Nat → Prop := fun q => G.2.2 ≤ q
def mN (U : State) : Prop := ∀ w ∈ NW, va_Nw w U
theorem mN.warm {s U : State} (hW : s.WarmedH U.vm) (h : mN s) : mN U := by
  intro w hw
  have h1 := h w hw
  have h2 := (List.mem_filter.mp hw).2
  cases w with
  | fieldLinkNest a i b n d z => exact va_Nw.warmF hW h1
  | methodLinkNest a i x z => exact va_Nw.warmM hW h1
  | castable a b => exact va_Nw.warmC hW h1
  | declares x => exact va_Nw.warmD hW h1
  | _ => cases h2
theorem mN.same {u U : State} (h : u.vm = U.vm) (hN : mN u) : mN U := by
  intro w hw
  have h1 := hN w hw
  have h2 := (List.mem_filter.mp hw).2
  cases w with
  | fieldLinkNest a i b n d z => exact va_Nw.same rfl h h1
  | methodLinkNest a i x z => exact va_Nw.same rfl h h1
  | castable a b => exact va_Nw.same rfl h h1
  | declares x => exact va_Nw.same rfl h h1
  | _ => cases h2
def mK (G : mG) (U : State) : Prop := va_K G.1 vwCl (mtys G) U ∧ mN U
theorem mK.warm {G : mG} {s U : State} (hW : s.WarmedH U.vm) (h : mK G s) : mK G U := ⟨va_K.moved hW.alike h.1, h.2.warm hW⟩
theorem mK.same {G : mG} {u U : State} (h : u.vm = U.vm) (hK : mK G u) : mK G U := ⟨va_K.moved (by rw [h]; exact Vm.Alike.refl _) hK.1, hK.2.same h⟩
def sEnt (i : Nat) : String × Nat × String × List Int32 := sTab.getD i ("", 0, "", [])
def sLen (i : Nat) : Nat := (sEnt i).2.2.2.length
def sByt (i j : Nat) : Int32 := (sEnt i).2.2.2.getD j 0
def sAd (G : mG) (i : Nat) : Nat := G.2.1 (100 + i)
def sBd (G : mG) (i : Nat) : Nat := G.2.1 (200 + i)
/-- a String constant, in the heap -/
def sS (G : mG) (i : Nat) (U : State) (H : Heap) : Prop := va_O "java/lang/String" (sAd G i) (mA G) U H ∧ va_OF "java/lang/String" "coder" "B" (.int 0) (sAd G i) (mA G) U H ∧ va_OF "java/lang/String" "value" "[B" (.ref (sBd G i)) (sAd G i) (mA G) U H ∧ va_T .byte (sBd G i) (sLen i) (fun j => .int (sByt i j)) (mA G) U H
/-- which of our exceptions pass which handlers -/
def mNc (U : State) : Prop := va_Nc "java/lang/IllegalArgumentException" "java/util/NoSuchElementException" U ∧ va_Nc "java/lang/IllegalStateException" "java/util/NoSuchElementException" U ∧ va_Nc "java/lang/IndexOutOfBoundsException" "java/util/NoSuchElementException" U ∧ va_Nc "java/lang/IndexOutOfBoundsException" "java/lang/IllegalStateException" U
theorem mNc.moved {u U : State} (hvm : u.vm.Alike U.vm) (h : mNc u) : mNc U := ⟨va_Nc.moved hvm h.1, va_Nc.moved hvm h.2.1, va_Nc.moved hvm h.2.2.1, va_Nc.moved hvm h.2.2.2⟩
/-- what stays of the start: the String constants, some statics -/
def mZ (G : mG) (U : State) : Prop := (∀ i, i < sTab.length → vk_R (sEnt i).1 (sEnt i).2.1 (sEnt i).2.2.1 (sAd G i) U ∧ sS G i U U.heap) ∧
  va_Z "java/lang/String" "COMPACT_STRINGS" "Z" (.int 1) (mA G) U U.heap ∧ va_Zq "jdk/internal/util/Preconditions" "SIOOBE_FORMATTER" "Ljava/util/function/BiFunction;" (mA G) U U.heap ∧
  vx_Zq Bundle.tN "UNASSIGNED_STACK" Bundle.steD (mA G) U U.heap ∧ vx_Zq Bundle.tN "SUPPRESSED_SENTINEL" Bundle.listD (mA G) U U.heap ∧ va_AO "NoThrees$World" U ∧ va_AO "NoThrees$Tray" U ∧ mNc U
theorem sS.to {G : mG} {i : Nat} {s U : State} {H H1 : Heap} (hvm : s.vm.Alike U.vm) (hq : ∀ a : Nat, a < H.size → ¬ mA G a → H1[a]? = H[a]?) (h : sS G i s H) : sS G i U H1 :=
  ⟨(va_O.moved hvm h.1).kept hq, (va_OF.moved hvm h.2.1).kept hq, (va_OF.moved hvm h.2.2.1).kept hq, (va_T.moved hvm h.2.2.2).kept hq⟩
theorem mZ.warm {G : mG} {s U : State} (hW : s.WarmedH U.vm) (hq : ∀ a : Nat, a < s.heap.size → ¬ mA G a → U.heap[a]? = s.heap[a]?) (h : mZ G s) : mZ G U :=
  ⟨fun i hi => ⟨vk_R.warm hW (h.1 i hi).1, (h.1 i hi).2.to hW.alike hq⟩, (va_Z.moved hW.alike h.2.1).kept hq, (va_Zq.moved hW.alike h.2.2.1).kept hq, (vx_Zq.moved hW.alike h.2.2.2.1).kept hq, (vx_Zq.moved hW.alike h.2.2.2.2.1).kept hq, va_AO.moved hW.alike h.2.2.2.2.2.1, va_AO.moved hW.alike h.2.2.2.2.2.2.1, h.2.2.2.2.2.2.2.moved hW.alike⟩
theorem mZ.same {G : mG} {u U : State} (hv : U.vm = u.vm) (hh : U.heap = u.heap) (h : mZ G u) : mZ G U := by
  have ha : u.vm.Alike U.vm := by rw [hv]; exact Vm.Alike.refl _
  have hq : ∀ a : Nat, a < u.heap.size → ¬ mA G a → U.heap[a]? = u.heap[a]? := fun a _ _ => by rw [hh]
  exact ⟨fun i hi => ⟨vk_R.same hv (h.1 i hi).1, (h.1 i hi).2.to ha hq⟩, (va_Z.moved ha h.2.1).kept hq, (va_Zq.moved ha h.2.2.1).kept hq, (vx_Zq.moved ha h.2.2.2.1).kept hq, (vx_Zq.moved ha h.2.2.2.2.1).kept hq, va_AO.moved ha h.2.2.2.2.2.1, va_AO.moved ha h.2.2.2.2.2.2.1, h.2.2.2.2.2.2.2.moved ha⟩
def mH (G : mG) (h : mM) (H0 H : Heap) (locs : List Loc) : Prop := mI G h H ∧ va_S (mA G) H0 H locs ∧ G.2.2 ≤ H0.size
theorem mI.one {G : mG} {h : mM} {H : Heap} {a : Nat} {e : va_E} (hI : mI G h H) (ha : h a = some e) : va_P G.1 vwCl [(a, e)] H := by
  intro k q hk
  match k, hk with
  | 0, hk => cases hk; exact (hI a e ha).1
  | k + 1, hk => simp at hk
theorem mI.lt {G : mG} {h : mM} {H : Heap} {a : Nat} {e : va_E} (hI : mI G h H) (ha : h a = some e) : a < H.size := (hI a e ha).1.lt
theorem mH.put {G : mG} {h : mM} {H0 H H1 : Heap} {locs : List Loc} {a k : Nat} {e0 e : va_E} (hH : mH G h H0 H locs) (ha : h a = some e0) (he : va_at G.1 vwCl (a, e) H1) (z : H1.size = H.size) (oq : ∀ q : Nat, q ≠ a → H1[q]? = H[q]?) : mH G (va_up h a (some e)) H0 H1 (locs ++ [⟨a, k⟩]) := by
  refine ⟨fun b e' hb => ?_, hH.2.1.put z oq (hH.1 a e0 ha).2, hH.2.2⟩
  by_cases hba : b = a
  · subst hba
    simp only [va_up, if_pos] at hb
    cases hb
    exact ⟨he, (hH.1 b e0 ha).2⟩
  · have hb' : h b = some e' := by simpa [va_up, hba] using hb
    exact ⟨(hH.1 b e' hb').1.kept (oq b hba), (hH.1 b e' hb').2⟩
/-- a new cell: at an address that the map did not have -/
theorem mH.mk {G : mG} {h : mM} {H0 H H1 : Heap} {locs : List Loc} {e : va_E} (hH : mH G h H0 H locs) (he : va_at G.1 vwCl (H.size, e) H1) (z : H1.size = H.size + 1) (oq : ∀ q : Nat, q < H.size → H1[q]? = H[q]?) : mH G (va_up h H.size (some e)) H0 H1 locs ∧ h H.size = none := by
  have hn : h H.size = none := by
    cases hq : h H.size with
    | none => rfl
    | some e' => exact absurd (hH.1.lt hq) (Nat.lt_irrefl _)
  refine ⟨⟨fun b e' hb => ?_, ⟨Nat.le_trans hH.2.1.1 (by omega), fun x h1 h2 => (oq x (Nat.lt_of_lt_of_le h1 hH.2.1.1)).trans (hH.2.1.2.1 x h1 h2), hH.2.1.2.2⟩, hH.2.2⟩, hn⟩
  by_cases hba : b = H.size
  · subst hba
    simp only [va_up, if_pos] at hb
    cases hb
    exact ⟨he, Nat.le_trans hH.2.2 hH.2.1.1⟩
  · have hb' : h b = some e' := by simpa [va_up, hba] using hb
    exact ⟨(hH.1 b e' hb').1.kept (oq b (hH.1.lt hb')), (hH.1 b e' hb').2⟩
/-- what stands fixed through a method's walk -/
def mX (G : mG) (p : Program) (m : MethodId) (c : Code) (cc : ByteArray) (nL : Nat) (s : State) (args : Array Value) (own : String) : Prop := CallFix p m c cc nL s args GW own ∧ (va_K G.1 vwCl (mtys G) s ∧ (mN s ∧ mZ G s))
section MR
variable {p : Program} {l : Launch} {e : Env} {R : Room} {s : State} {m : MethodId} {args : Array Value} {below : List Frame} {meth : Method} {c : Code} {H : Heap} {locs : List Loc} {cells slots : Nat} {Q : State → Prop}
variable {cc : ByteArray} {nL pc : Nat} {ls : Array Slot} {rest : List Value} {G : mG} {h : mM} {own : String} {a : Nat} {H0 : Heap}
theorem mX.x (X : mX G p m c cc nL s args own) : p.tables.exec = Jvm.exec := X.1.1
theorem mX.b (X : mX G p m c cc nL s args own) : c.code = cc := X.1.2.1
theorem mX.ow (X : mX G p m c cc nL s args own) : s.vm.findClass own = some m.cls := X.1.2.2.2.1
theorem mX.ts (X : mX G p m c cc nL s args own) : ∀ w ∈ GW, w.before args s = true := X.1.2.2.2.2
theorem mX.nw (X : mX G p m c cc nL s args own) {w : Cond} (hw : w ∈ NW) : w.before args s = true := by
  have h1 := X.2.2.1 w hw
  have h2 := (List.mem_filter.mp hw).2
  cases w with
  | fieldLinkNest a i b n d z => exact va_Nw.use rfl h1
  | methodLinkNest a i x z => exact va_Nw.use rfl h1
  | castable a b => exact va_Nw.use rfl h1
  | declares x => exact va_Nw.use rfl h1
  | _ => cases h2
theorem mr_get (X : mX G p m c cc nL s args own) (hH : mH G h H0 H locs) {C : String} {T : u_T} {N ci index : Nat} {fs : List Value} (ha : h a = some (.inr (ci, fs))) (hin : ∀ w ∈ u_ws C T N, w ∈ GW) (hc : vwCl[ci]? = some (C, T, N)) (k : Nat) (hk : k < N) (hlink : Cond.fieldLink own index (T k).1 (T k).2.1 (T k).2.2.1 ∈ GW) {v : Value} (hv : fs[k]? = some v) (hdg : decode cc pc = .ok (.getfield index, 3))
    (kk : W p l e R s m args below meth c H locs cells slots Q (F0 m (pc + 3) ls (v :: rest))) : W p l e R s m args below meth c H locs cells slots Q (F0 m pc ls (.ref a :: rest)) :=
  va_get X.x X.b X.ts hin X.ow X.2.1 (hH.1.one ha) 0 rfl hc k hk (X.ts _ hlink) (fun _ q => q) hv hdg kk
theorem mr_getN (X : mX G p m c cc nL s args own) (hH : mH G h H0 H locs) {C host : String} {T : u_T} {N ci index : Nat} {fs : List Value} (ha : h a = some (.inr (ci, fs))) (hin : ∀ w ∈ u_ws C T N, w ∈ GW) (hc : vwCl[ci]? = some (C, T, N)) (k : Nat) (hk : k < N) (hlink : Cond.fieldLinkNest own index (T k).1 (T k).2.1 (T k).2.2.1 host ∈ NW) {v : Value} (hv : fs[k]? = some v) (hdg : decode cc pc = .ok (.getfield index, 3))
    (kk : W p l e R s m args below meth c H locs cells slots Q (F0 m (pc + 3) ls (v :: rest))) : W p l e R s m args below meth c H locs cells slots Q (F0 m pc ls (.ref a :: rest)) :=
  va_getN X.x X.b X.ts hin X.ow X.2.1 (hH.1.one ha) 0 rfl hc k hk (X.nw hlink) (fun _ q => q) hv hdg kk
theorem mr_put (X : mX G p m c cc nL s args own) (hH : mH G h H0 H locs) {C : String} {T : u_T} {N ci index : Nat} {fs : List Value} (ha : h a = some (.inr (ci, fs))) (hin : ∀ w ∈ u_ws C T N, w ∈ GW) (ty0 : Nat → FieldType) (hty : ∀ k, k < N → parseFieldDescriptor (T k).2.2.1 = some (ty0 k)) (hnm : ∀ a, a < N → ∀ b, b < N → a ≠ b → (T a).2.1 ≠ (T b).2.1) (hc : vwCl[ci]? = some (C, T, N)) (k : Nat) (hk : k < N) (hlink : Cond.fieldLink own index (T k).1 (T k).2.1 (T k).2.2.1 ∈ GW) (hfin : (T k).2.2.2 = false) {v : Value} (hn : narrow (ty0 k) v = v) (hfit : fits (ty0 k) v = true) (hl : k < fs.length) (hdg : decode cc pc = .ok (.putfield index, 3))
    (kk : ∀ (H1 : Heap) (locs1 : List Loc), mH G (va_up h a (some (.inr (ci, fs.set k v)))) H0 H1 locs1 → W p l e R s m args below meth c H1 locs1 cells slots Q (F0 m (pc + 3) ls rest)) : W p l e R s m args below meth c H locs cells slots Q (F0 m pc ls (v :: .ref a :: rest)) := by
  have hap := va_apart (own := own) X.ts hin ty0 hty hnm X.2.1 hc
  have hP := hH.1.one ha
  obtain ⟨r, h1, cell, q1, q2, q3, q4⟩ := hP 0 _ rfl
  have hr : r = (C, T, N) := Option.some.inj (h1.symm.trans hc)
  subst hr
  obtain ⟨hS, hfc, kC, hkC, hkind⟩ := X.2.1.1 ci _ hc
  obtain ⟨cf, kf, fi, f, hi, hsl⟩ := hS k hk
  have hlay := X.ts _ (hin _ (u_in_lay hk))
  unfold u_lay at hlay
  rw [if_neg (by rw [hfin]; decide)] at hlay
  have hst := (u_facts hfc hkC (u_lays X.ts hin hk) hi).1
  have h6 := u_store hfc hkC hkind hlay hi (hty k hk) hn hfit
  refine W.putK X.x X.b (f := f) ⟨X.ow, X.ts _ hlink, ⟨_, _, _, hi⟩, hst⟩ (by rw [q2]; exact h6) q1 q3 (by rw [hsl]; exact k2_hasslot (q4 k hk)) rfl rfl hdg fun H' e1 e2 e3 => ?_
  rw [hsl] at e1 ⊢
  exact kk H' _ (hH.put ha ⟨_, hc, t_OB.to (V := updV (vp_V fs) k v) ⟨_, e1, q2, q3, t_set q4 hap hk v⟩ (fun j _ => vp_updV_set hl v j)⟩ e2 e3)
theorem mr_iald (X : mX G p m c cc nL s args own) (hH : mH G h H0 H locs) {n : Nat} {f : Nat → Int32} (ha : h a = some (aI G n f)) {i : Int32} (hin : vp_in i n) (hdg : decode cc pc = .ok (.iaload, 1))
    (kk : W p l e R s m args below meth c H locs cells slots Q (F0 m (pc + 1) ls (.int (f i.toNatClampNeg) :: rest))) : W p l e R s m args below meth c H locs cells slots Q (F0 m pc ls (.int i :: .ref a :: rest)) :=
  va_iald X.x X.b X.2.1 (hH.1.one ha) 0 0 rfl rfl hin hdg kk
theorem mr_lald (X : mX G p m c cc nL s args own) (hH : mH G h H0 H locs) {n : Nat} {f : Nat → Int64} (ha : h a = some (aJ G n f)) {i : Int32} (hin : vp_in i n) (hdg : decode cc pc = .ok (.laload, 1))
    (kk : W p l e R s m args below meth c H locs cells slots Q (F0 m (pc + 1) ls (.long (f i.toNatClampNeg) :: rest))) : W p l e R s m args below meth c H locs cells slots Q (F0 m pc ls (.int i :: .ref a :: rest)) :=
  va_lald X.x X.b X.2.1 (hH.1.one ha) 0 1 rfl rfl hin hdg kk
theorem mr_bald (X : mX G p m c cc nL s args own) (hH : mH G h H0 H locs) {n : Nat} {f : Nat → Int32} (ha : h a = some (aB G n f)) {i : Int32} (hin : vp_in i n) (hdg : decode cc pc = .ok (.baload, 1))
    (kk : W p l e R s m args below meth c H locs cells slots Q (F0 m (pc + 1) ls (.int (f i.toNatClampNeg) :: rest))) : W p l e R s m args below meth c H locs cells slots Q (F0 m pc ls (.int i :: .ref a :: rest)) :=
  va_bald X.x X.b X.2.1 (hH.1.one ha) 0 2 rfl rfl hin hdg kk
theorem mr_zald (X : mX G p m c cc nL s args own) (hH : mH G h H0 H locs) {n : Nat} {f : Nat → Int32} (ha : h a = some (aZ G n f)) {i : Int32} (hin : vp_in i n) (hdg : decode cc pc = .ok (.baload, 1))
    (kk : W p l e R s m args below meth c H locs cells slots Q (F0 m (pc + 1) ls (.int (f i.toNatClampNeg) :: rest))) : W p l e R s m args below meth c H locs cells slots Q (F0 m pc ls (.int i :: .ref a :: rest)) :=
  va_zald X.x X.b X.2.1 (hH.1.one ha) 0 3 rfl rfl hin hdg kk
theorem mr_iast (X : mX G p m c cc nL s args own) (hH : mH G h H0 H locs) {n : Nat} {f : Nat → Int32} (ha : h a = some (aI G n f)) {i x : Int32} (hin : vp_in i n) (hdg : decode cc pc = .ok (.iastore, 1))
    (kk : ∀ (H1 : Heap) (locs1 : List Loc), mH G (va_up h a (some (aI G n (upd f i.toNatClampNeg x)))) H0 H1 locs1 → W p l e R s m args below meth c H1 locs1 cells slots Q (F0 m (pc + 1) ls rest)) : W p l e R s m args below meth c H locs cells slots Q (F0 m pc ls (.int x :: .int i :: .ref a :: rest)) := by
  refine W.iast X.x X.b (hH.1 a _ ha).1 ((X.2.1.2 0 _ rfl).1 n (fun j => .int (f j))) (fun q => by cases q) (by show ¬ (i < 0 ∨ (arrV _ _ _).slots.size ≤ _); rw [arrV_size]; exact hin) rfl rfl hdg fun H1 e z oq => ?_
  refine kk H1 _ (hH.put ha ?_ z oq)
  show H1[a]? = some (vp_cell _ _)
  rw [e]
  rw [vp_cell_i, vp_cell_i, arrV_store]
  congr 2
  funext q
  by_cases hq : q = i.toNatClampNeg
  · subst hq
    simp [updV, upd]
  · simp [updV, upd, hq]
theorem mr_last (X : mX G p m c cc nL s args own) (hH : mH G h H0 H locs) {n : Nat} {f : Nat → Int64} (ha : h a = some (aJ G n f)) {i : Int32} {x : Int64} (hin : vp_in i n) (hdg : decode cc pc = .ok (.lastore, 1))
    (kk : ∀ (H1 : Heap) (locs1 : List Loc), mH G (va_up h a (some (aJ G n (vp_updL f i.toNatClampNeg x)))) H0 H1 locs1 → W p l e R s m args below meth c H1 locs1 cells slots Q (F0 m (pc + 1) ls rest)) : W p l e R s m args below meth c H locs cells slots Q (F0 m pc ls (.long x :: .int i :: .ref a :: rest)) := by
  refine W.last X.x X.b (hH.1 a _ ha).1 ((X.2.1.2 1 _ rfl).1 n (fun j => .long (f j))) (fun q => by cases q) (by show ¬ (i < 0 ∨ (arrV _ _ _).slots.size ≤ _); rw [arrV_size]; exact hin) rfl rfl hdg fun H1 e z oq => ?_
  refine kk H1 _ (hH.put ha ?_ z oq)
  show H1[a]? = some (vp_cell _ _)
  rw [e]
  rw [vp_cell_l, vp_cell_l, arrV_store]
  congr 2
  funext q
  by_cases hq : q = i.toNatClampNeg
  · subst hq
    simp [updV, vp_updL]
  · simp [updV, vp_updL, hq]
theorem mr_bast (X : mX G p m c cc nL s args own) (hH : mH G h H0 H locs) {n : Nat} {f : Nat → Int32} (ha : h a = some (aB G n f)) {i x : Int32} (hin : vp_in i n) (hdg : decode cc pc = .ok (.bastore, 1))
    (kk : ∀ (H1 : Heap) (locs1 : List Loc), mH G (va_up h a (some (aB G n (upd f i.toNatClampNeg (vp_nar .byte x))))) H0 H1 locs1 → W p l e R s m args below meth c H1 locs1 cells slots Q (F0 m (pc + 1) ls rest)) : W p l e R s m args below meth c H locs cells slots Q (F0 m pc ls (.int x :: .int i :: .ref a :: rest)) := by
  refine W.bast X.x X.b (hH.1 a _ ha).1 ((X.2.1.2 2 _ rfl).1 n (fun j => .int (f j))) (fun q => by cases q) (by show ¬ (i < 0 ∨ (arrV _ _ _).slots.size ≤ _); rw [arrV_size]; exact hin) rfl rfl hdg fun H1 e z oq => ?_
  refine kk H1 _ (hH.put ha ?_ z oq)
  show H1[a]? = some (vp_cell _ _)
  rw [e]
  rw [vp_cell_i, vp_cell_i, arrV_store]
  congr 2
  funext q
  by_cases hq : q = i.toNatClampNeg
  · subst hq
    simp [updV, upd, vp_nar]
    try rfl
  · simp [updV, upd, hq]
theorem mr_zast (X : mX G p m c cc nL s args own) (hH : mH G h H0 H locs) {n : Nat} {f : Nat → Int32} (ha : h a = some (aZ G n f)) {i x : Int32} (hin : vp_in i n) (hdg : decode cc pc = .ok (.bastore, 1))
    (kk : ∀ (H1 : Heap) (locs1 : List Loc), mH G (va_up h a (some (aZ G n (upd f i.toNatClampNeg (vp_nar .boolean x))))) H0 H1 locs1 → W p l e R s m args below meth c H1 locs1 cells slots Q (F0 m (pc + 1) ls rest)) : W p l e R s m args below meth c H locs cells slots Q (F0 m pc ls (.int x :: .int i :: .ref a :: rest)) := by
  refine W.zast X.x X.b (hH.1 a _ ha).1 ((X.2.1.2 3 _ rfl).1 n (fun j => .int (f j))) (fun q => by cases q) (by show ¬ (i < 0 ∨ (arrV _ _ _).slots.size ≤ _); rw [arrV_size]; exact hin) rfl rfl hdg fun H1 e z oq => ?_
  refine kk H1 _ (hH.put ha ?_ z oq)
  show H1[a]? = some (vp_cell _ _)
  rw [e]
  rw [vp_cell_i, vp_cell_i, arrV_store]
  congr 2
  funext q
  by_cases hq : q = i.toNatClampNeg
  · subst hq
    simp [updV, upd, vp_nar]
    try rfl
  · simp [updV, upd, hq]
end MR
