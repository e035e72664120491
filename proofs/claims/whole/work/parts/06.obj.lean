/-! OBJECTS: an object with its own arrays, laid over a memory. A layout: its class's place in vwCl, how many fields, of each field its sort (0 int or boolean, 1 long, 2 int array, 3 long array, 4 byte array, 5 boolean array, 6 a cell elsewhere) and its array's length. -/
abbrev LY : Type := Nat × Nat × (Nat → Nat × Nat)
/-- what an object holds: int fields, long fields, int arrays (byte and boolean, too), long arrays; by the field's number -/
abbrev OS : Type := (Nat → Int32) × (Nat → Int64) × (Nat → Nat → Int32) × (Nat → Nat → Int64)
def oI (st : OS) (k : Nat) (v : Int32) : OS := (va_up st.1 k v, st.2)
def oJ (st : OS) (k : Nat) (v : Int64) : OS := (st.1, va_up st.2.1 k v, st.2.2)
def oA (st : OS) (k : Nat) (f : Nat → Int32) : OS := (st.1, st.2.1, va_up st.2.2.1 k f, st.2.2.2)
def oB (st : OS) (k : Nat) (f : Nat → Int64) : OS := (st.1, st.2.1, st.2.2.1, va_up st.2.2.2 k f)
def ofs (L : LY) (q : Nat → Nat) (st : OS) : List Value := (List.range L.2.1).map (fun k => match (L.2.2 k).1 with | 0 => .int (st.1 k) | 1 => .long (st.2.1 k) | _ => .ref (q k))
def ocell (L : LY) (G : mG) (q : Nat → Nat) (st : OS) (k : Nat) : va_E := if k = L.2.1 then .inr (L.1, ofs L q st) else match L.2.2 k with | (2, n) => aI G n (st.2.2.1 k) | (3, n) => aJ G n (st.2.2.2 k) | (4, n) => aB G n (st.2.2.1 k) | (_, n) => aZ G n (st.2.2.1 k)
def ohas (L : LY) (k : Nat) : Bool := k == L.2.1 || (decide (2 ≤ (L.2.2 k).1) && decide ((L.2.2 k).1 ≤ 5) && decide (k < L.2.1))
def oidx (L : LY) (q : Nat → Nat) (a : Nat) : Option Nat := (List.range (L.2.1 + 1)).find? (fun k => ohas L k && q k == a)
def oset (L : LY) (G : mG) (q : Nat → Nat) (st : OS) (h : mM) : mM := fun a => match oidx L q a with
  | some k => some (ocell L G q st k)
  | none => h a
def oinj (L : LY) (q : Nat → Nat) : Prop := ∀ i j, i ≤ L.2.1 → j ≤ L.2.1 → ohas L i = true → ohas L j = true → q i = q j → i = j
theorem oidx_some {L : LY} {q : Nat → Nat} {a k : Nat} (h : oidx L q a = some k) : k ≤ L.2.1 ∧ ohas L k = true ∧ q k = a := by
  have h1 := List.find?_some h
  have h2 := List.mem_of_find?_eq_some h
  simp only [Bool.and_eq_true, beq_iff_eq] at h1
  exact ⟨by have := List.mem_range.mp h2; omega, h1.1, h1.2⟩
theorem oidx_at {L : LY} {q : Nat → Nat} (hq : oinj L q) {k : Nat} (hk : k ≤ L.2.1) (hh : ohas L k = true) : oidx L q (q k) = some k := by
  cases hf : oidx L q (q k) with
  | none =>
    have h1 := List.find?_eq_none.mp hf k (List.mem_range.mpr (by omega))
    simp [hh] at h1
  | some j =>
    obtain ⟨h1, h2, h3⟩ := oidx_some hf
    rw [hq j k h1 hk h2 hh h3]
theorem oset_at {L : LY} {G : mG} {q : Nat → Nat} {st : OS} {h : mM} (hq : oinj L q) {k : Nat} (hk : k ≤ L.2.1) (hh : ohas L k = true) : oset L G q st h (q k) = some (ocell L G q st k) := by
  unfold oset
  rw [oidx_at hq hk hh]
theorem oset_up {L : LY} {G : mG} {q : Nat → Nat} {st st' : OS} {h : mM} (hq : oinj L q) {k : Nat} (hk : k ≤ L.2.1) (hh : ohas L k = true) {e : va_E} (he : e = ocell L G q st' k) (hj : ∀ j, j ≤ L.2.1 → ohas L j = true → j ≠ k → ocell L G q st j = ocell L G q st' j) : va_up (oset L G q st h) (q k) (some e) = oset L G q st' h := by
  funext a
  by_cases ha : a = q k
  · subst ha
    rw [oset_at hq hk hh, he]
    simp [va_up]
  · simp only [va_up, if_neg ha, oset]
    cases hf : oidx L q a with
    | none => rfl
    | some j =>
      obtain ⟨h1, h2, h3⟩ := oidx_some hf
      have hjk : j ≠ k := fun z => ha (by rw [← h3, z])
      show some _ = some _
      rw [hj j h1 h2 hjk]
theorem oset_oset {L : LY} {G : mG} {q : Nat → Nat} {st st' : OS} {h : mM} : oset L G q st' (oset L G q st h) = oset L G q st' h := by
  funext a
  simp only [oset]
  cases oidx L q a <;> rfl
/-- two objects apart -/
def odis (L1 : LY) (q1 : Nat → Nat) (L2 : LY) (q2 : Nat → Nat) : Prop := ∀ i j, i ≤ L1.2.1 → j ≤ L2.2.1 → ohas L1 i = true → ohas L2 j = true → q1 i ≠ q2 j
theorem odis.symm {L1 L2 : LY} {q1 q2 : Nat → Nat} (h : odis L1 q1 L2 q2) : odis L2 q2 L1 q1 := fun i j hi hj h1 h2 z => h j i hj hi h2 h1 z.symm
theorem oset_comm {L1 L2 : LY} {G : mG} {q1 q2 : Nat → Nat} {s1 s2 : OS} {h : mM} (hd : odis L1 q1 L2 q2) : oset L1 G q1 s1 (oset L2 G q2 s2 h) = oset L2 G q2 s2 (oset L1 G q1 s1 h) := by
  funext a
  simp only [oset]
  cases h1 : oidx L1 q1 a with
  | none => rfl
  | some i =>
    cases h2 : oidx L2 q2 a with
    | none => rfl
    | some j =>
      obtain ⟨a1, a2, a3⟩ := oidx_some h1
      obtain ⟨b1, b2, b3⟩ := oidx_some h2
      exact absurd (a3.trans b3.symm) (hd i j a1 b1 a2 b2)
theorem ofs_at {L : LY} {q : Nat → Nat} {st : OS} {k : Nat} (hk : k < L.2.1) : (ofs L q st)[k]? = some (match (L.2.2 k).1 with | 0 => .int (st.1 k) | 1 => .long (st.2.1 k) | _ => .ref (q k)) := by
  unfold ofs
  rw [List.getElem?_map, List.getElem?_range hk]
  rfl
theorem ofs_len {L : LY} {q : Nat → Nat} {st : OS} : (ofs L q st).length = L.2.1 := by simp [ofs]
theorem ofs_I {L : LY} {q : Nat → Nat} {st : OS} {k : Nat} {v : Int32} (hs : (L.2.2 k).1 = 0) : (ofs L q st).set k (.int v) = ofs L q (oI st k v) := by
  apply List.ext_getElem?
  intro j
  by_cases hj : j < L.2.1
  · by_cases hjk : j = k
    · subst hjk
      rw [List.getElem?_set_self (by rw [ofs_len]; exact hj), ofs_at hj, hs]
      simp [oI, va_up]
    · rw [List.getElem?_set_ne (Ne.symm hjk), ofs_at hj, ofs_at hj]
      simp [oI, va_up, hjk]
  · rw [List.getElem?_eq_none (by rw [List.length_set, ofs_len]; omega), List.getElem?_eq_none (by rw [ofs_len]; omega)]
theorem ofs_J {L : LY} {q : Nat → Nat} {st : OS} {k : Nat} {v : Int64} (hs : (L.2.2 k).1 = 1) : (ofs L q st).set k (.long v) = ofs L q (oJ st k v) := by
  apply List.ext_getElem?
  intro j
  by_cases hj : j < L.2.1
  · by_cases hjk : j = k
    · subst hjk
      rw [List.getElem?_set_self (by rw [ofs_len]; exact hj), ofs_at hj, hs]
      simp [oJ, va_up]
    · rw [List.getElem?_set_ne (Ne.symm hjk), ofs_at hj, ofs_at hj]
      simp [oJ, va_up, hjk]
  · rw [List.getElem?_eq_none (by rw [List.length_set, ofs_len]; omega), List.getElem?_eq_none (by rw [ofs_len]; omega)]
theorem ocell_N {L : LY} {G : mG} {q : Nat → Nat} {st : OS} : ocell L G q st L.2.1 = .inr (L.1, ofs L q st) := by simp [ocell]
theorem ohas_N {L : LY} : ohas L L.2.1 = true := by simp [ohas]
theorem ohas_ne {L : LY} {j : Nat} (h : ohas L j = true) (hj : j ≠ L.2.1) : j < L.2.1 := by
  simp [ohas, hj] at h
  exact h.2
theorem ohas_k {L : LY} {k n t : Nat} (hk : k < L.2.1) (hs : L.2.2 k = (t, n)) (h2 : 2 ≤ t) (h5 : t ≤ 5) : ohas L k = true := by
  simp [ohas, hs, h2, h5, hk]
/-- a layout is that of a class -/
def oOK (L : LY) (C : String) (T : u_T) (ty : Nat → FieldType) : Prop := vwCl[L.1]? = some (C, T, L.2.1) ∧ (∀ w ∈ u_ws C T L.2.1, w ∈ GW) ∧ (∀ k, k < L.2.1 → parseFieldDescriptor (T k).2.2.1 = some (ty k)) ∧ (∀ a, a < L.2.1 → ∀ b, b < L.2.1 → a ≠ b → (T a).2.1 ≠ (T b).2.1)
section MO
variable {p : Program} {l : Launch} {e : Env} {R : Room} {s : State} {m : MethodId} {args : Array Value} {below : List Frame} {meth : Method} {c : Code} {H : Heap} {locs : List Loc} {cells slots : Nat} {Q : State → Prop}
variable {cc : ByteArray} {nL pc idx : Nat} {ls : Array Slot} {rest : List Value} {G : mG} {h : mM} {own : String} {a : Nat} {H0 : Heap} {L : LY} {q : Nat → Nat} {st : OS} {C : String} {T : u_T} {ty : Nat → FieldType}
theorem og_getI (O : oOK L C T ty) (X : mX G p m c cc nL s args own) (hq : oinj L q) (hH : mH G (oset L G q st h) H0 H locs) (k : Nat) (hk : k < L.2.1) (hs : (L.2.2 k).1 = 0) (hlink : Cond.fieldLink own idx (T k).1 (T k).2.1 (T k).2.2.1 ∈ GW) (hdg : decode cc pc = .ok (.getfield idx, 3))
    (kk : W p l e R s m args below meth c H locs cells slots Q (F0 m (pc + 3) ls (.int (st.1 k) :: rest))) : W p l e R s m args below meth c H locs cells slots Q (F0 m pc ls (.ref (q L.2.1) :: rest)) :=
  mr_get X hH ((oset_at hq (Nat.le_refl _) ohas_N).trans (congrArg some ocell_N)) O.2.1 O.1 k hk hlink (by rw [ofs_at hk, hs]; rfl) hdg kk
theorem og_getJ (O : oOK L C T ty) (X : mX G p m c cc nL s args own) (hq : oinj L q) (hH : mH G (oset L G q st h) H0 H locs) (k : Nat) (hk : k < L.2.1) (hs : (L.2.2 k).1 = 1) (hlink : Cond.fieldLink own idx (T k).1 (T k).2.1 (T k).2.2.1 ∈ GW) (hdg : decode cc pc = .ok (.getfield idx, 3))
    (kk : W p l e R s m args below meth c H locs cells slots Q (F0 m (pc + 3) ls (.long (st.2.1 k) :: rest))) : W p l e R s m args below meth c H locs cells slots Q (F0 m pc ls (.ref (q L.2.1) :: rest)) :=
  mr_get X hH ((oset_at hq (Nat.le_refl _) ohas_N).trans (congrArg some ocell_N)) O.2.1 O.1 k hk hlink (by rw [ofs_at hk, hs]; rfl) hdg kk
theorem og_getR (O : oOK L C T ty) (X : mX G p m c cc nL s args own) (hq : oinj L q) (hH : mH G (oset L G q st h) H0 H locs) (k : Nat) (hk : k < L.2.1) {t : Nat} (hs : (L.2.2 k).1 = t + 2) (hlink : Cond.fieldLink own idx (T k).1 (T k).2.1 (T k).2.2.1 ∈ GW) (hdg : decode cc pc = .ok (.getfield idx, 3))
    (kk : W p l e R s m args below meth c H locs cells slots Q (F0 m (pc + 3) ls (.ref (q k) :: rest))) : W p l e R s m args below meth c H locs cells slots Q (F0 m pc ls (.ref (q L.2.1) :: rest)) :=
  mr_get X hH ((oset_at hq (Nat.le_refl _) ohas_N).trans (congrArg some ocell_N)) O.2.1 O.1 k hk hlink (by rw [ofs_at hk, hs]; rfl) hdg kk
theorem og_getIN (O : oOK L C T ty) (X : mX G p m c cc nL s args own) (hq : oinj L q) (hH : mH G (oset L G q st h) H0 H locs) (k : Nat) (hk : k < L.2.1) (hs : (L.2.2 k).1 = 0) {host : String} (hlink : Cond.fieldLinkNest own idx (T k).1 (T k).2.1 (T k).2.2.1 host ∈ NW) (hdg : decode cc pc = .ok (.getfield idx, 3))
    (kk : W p l e R s m args below meth c H locs cells slots Q (F0 m (pc + 3) ls (.int (st.1 k) :: rest))) : W p l e R s m args below meth c H locs cells slots Q (F0 m pc ls (.ref (q L.2.1) :: rest)) :=
  mr_getN X hH ((oset_at hq (Nat.le_refl _) ohas_N).trans (congrArg some ocell_N)) O.2.1 O.1 k hk hlink (by rw [ofs_at hk, hs]; rfl) hdg kk
theorem og_getRN (O : oOK L C T ty) (X : mX G p m c cc nL s args own) (hq : oinj L q) (hH : mH G (oset L G q st h) H0 H locs) (k : Nat) (hk : k < L.2.1) {t : Nat} (hs : (L.2.2 k).1 = t + 2) {host : String} (hlink : Cond.fieldLinkNest own idx (T k).1 (T k).2.1 (T k).2.2.1 host ∈ NW) (hdg : decode cc pc = .ok (.getfield idx, 3))
    (kk : W p l e R s m args below meth c H locs cells slots Q (F0 m (pc + 3) ls (.ref (q k) :: rest))) : W p l e R s m args below meth c H locs cells slots Q (F0 m pc ls (.ref (q L.2.1) :: rest)) :=
  mr_getN X hH ((oset_at hq (Nat.le_refl _) ohas_N).trans (congrArg some ocell_N)) O.2.1 O.1 k hk hlink (by rw [ofs_at hk, hs]; rfl) hdg kk
theorem og_putI (O : oOK L C T ty) (X : mX G p m c cc nL s args own) (hq : oinj L q) (hH : mH G (oset L G q st h) H0 H locs) (k : Nat) (hk : k < L.2.1) (hs : (L.2.2 k).1 = 0) (hlink : Cond.fieldLink own idx (T k).1 (T k).2.1 (T k).2.2.1 ∈ GW) (hfin : (T k).2.2.2 = false) {v : Int32} (hn : narrow (ty k) (.int v) = .int v) (hfit : fits (ty k) (.int v) = true) (hdg : decode cc pc = .ok (.putfield idx, 3))
    (kk : ∀ (H1 : Heap) (locs1 : List Loc), mH G (oset L G q (oI st k v) h) H0 H1 locs1 → W p l e R s m args below meth c H1 locs1 cells slots Q (F0 m (pc + 3) ls rest)) : W p l e R s m args below meth c H locs cells slots Q (F0 m pc ls (.int v :: .ref (q L.2.1) :: rest)) := by
  refine mr_put X hH ((oset_at hq (Nat.le_refl _) ohas_N).trans (congrArg some ocell_N)) O.2.1 ty O.2.2.1 O.2.2.2 O.1 k hk hlink hfin hn hfit (by rw [ofs_len]; exact hk) hdg (fun H1 locs1 hH => kk H1 locs1 ?_)
  rw [oset_up hq (Nat.le_refl _) ohas_N (st' := oI st k v) (by rw [ocell_N, ofs_I hs]) (fun j _ _ hjn => by simp [ocell, hjn, oI])] at hH
  exact hH
theorem og_putJ (O : oOK L C T ty) (X : mX G p m c cc nL s args own) (hq : oinj L q) (hH : mH G (oset L G q st h) H0 H locs) (k : Nat) (hk : k < L.2.1) (hs : (L.2.2 k).1 = 1) (hlink : Cond.fieldLink own idx (T k).1 (T k).2.1 (T k).2.2.1 ∈ GW) (hfin : (T k).2.2.2 = false) {v : Int64} (hn : narrow (ty k) (.long v) = .long v) (hfit : fits (ty k) (.long v) = true) (hdg : decode cc pc = .ok (.putfield idx, 3))
    (kk : ∀ (H1 : Heap) (locs1 : List Loc), mH G (oset L G q (oJ st k v) h) H0 H1 locs1 → W p l e R s m args below meth c H1 locs1 cells slots Q (F0 m (pc + 3) ls rest)) : W p l e R s m args below meth c H locs cells slots Q (F0 m pc ls (.long v :: .ref (q L.2.1) :: rest)) := by
  refine mr_put X hH ((oset_at hq (Nat.le_refl _) ohas_N).trans (congrArg some ocell_N)) O.2.1 ty O.2.2.1 O.2.2.2 O.1 k hk hlink hfin hn hfit (by rw [ofs_len]; exact hk) hdg (fun H1 locs1 hH => kk H1 locs1 ?_)
  rw [oset_up hq (Nat.le_refl _) ohas_N (st' := oJ st k v) (by rw [ocell_N, ofs_J hs]) (fun j _ _ hjn => by simp [ocell, hjn, oJ])] at hH
  exact hH
theorem oc_k {k n t : Nat} (hk : k < L.2.1) (hs : L.2.2 k = (t, n)) : ocell L G q st k = (match (t, n) with | (2, n) => aI G n (st.2.2.1 k) | (3, n) => aJ G n (st.2.2.2 k) | (4, n) => aB G n (st.2.2.1 k) | (_, n) => aZ G n (st.2.2.1 k)) := by
  unfold ocell
  rw [if_neg (Nat.ne_of_lt hk), hs]
theorem og_iald (X : mX G p m c cc nL s args own) (hq : oinj L q) (hH : mH G (oset L G q st h) H0 H locs) (k : Nat) {n : Nat} (hk : k < L.2.1) (hs : L.2.2 k = (2, n)) {i : Int32} (hin : vp_in i n) (hdg : decode cc pc = .ok (.iaload, 1))
    (kk : W p l e R s m args below meth c H locs cells slots Q (F0 m (pc + 1) ls (.int (st.2.2.1 k i.toNatClampNeg) :: rest))) : W p l e R s m args below meth c H locs cells slots Q (F0 m pc ls (.int i :: .ref (q k) :: rest)) :=
  mr_iald X hH ((oset_at hq (Nat.le_of_lt hk) (ohas_k hk hs (by decide) (by decide))).trans (congrArg some (oc_k hk hs))) hin hdg kk
theorem og_bald (X : mX G p m c cc nL s args own) (hq : oinj L q) (hH : mH G (oset L G q st h) H0 H locs) (k : Nat) {n : Nat} (hk : k < L.2.1) (hs : L.2.2 k = (4, n)) {i : Int32} (hin : vp_in i n) (hdg : decode cc pc = .ok (.baload, 1))
    (kk : W p l e R s m args below meth c H locs cells slots Q (F0 m (pc + 1) ls (.int (st.2.2.1 k i.toNatClampNeg) :: rest))) : W p l e R s m args below meth c H locs cells slots Q (F0 m pc ls (.int i :: .ref (q k) :: rest)) :=
  mr_bald X hH ((oset_at hq (Nat.le_of_lt hk) (ohas_k hk hs (by decide) (by decide))).trans (congrArg some (oc_k hk hs))) hin hdg kk
theorem og_zald (X : mX G p m c cc nL s args own) (hq : oinj L q) (hH : mH G (oset L G q st h) H0 H locs) (k : Nat) {n : Nat} (hk : k < L.2.1) (hs : L.2.2 k = (5, n)) {i : Int32} (hin : vp_in i n) (hdg : decode cc pc = .ok (.baload, 1))
    (kk : W p l e R s m args below meth c H locs cells slots Q (F0 m (pc + 1) ls (.int (st.2.2.1 k i.toNatClampNeg) :: rest))) : W p l e R s m args below meth c H locs cells slots Q (F0 m pc ls (.int i :: .ref (q k) :: rest)) :=
  mr_zald X hH ((oset_at hq (Nat.le_of_lt hk) (ohas_k hk hs (by decide) (by decide))).trans (congrArg some (oc_k hk hs))) hin hdg kk
theorem og_lald (X : mX G p m c cc nL s args own) (hq : oinj L q) (hH : mH G (oset L G q st h) H0 H locs) (k : Nat) {n : Nat} (hk : k < L.2.1) (hs : L.2.2 k = (3, n)) {i : Int32} (hin : vp_in i n) (hdg : decode cc pc = .ok (.laload, 1))
    (kk : W p l e R s m args below meth c H locs cells slots Q (F0 m (pc + 1) ls (.long (st.2.2.2 k i.toNatClampNeg) :: rest))) : W p l e R s m args below meth c H locs cells slots Q (F0 m pc ls (.int i :: .ref (q k) :: rest)) :=
  mr_lald X hH ((oset_at hq (Nat.le_of_lt hk) (ohas_k hk hs (by decide) (by decide))).trans (congrArg some (oc_k hk hs))) hin hdg kk
theorem og_iast (X : mX G p m c cc nL s args own) (hq : oinj L q) (hH : mH G (oset L G q st h) H0 H locs) (k : Nat) {n : Nat} (hk : k < L.2.1) (hs : L.2.2 k = (2, n)) {i x : Int32} (hin : vp_in i n) (hdg : decode cc pc = .ok (.iastore, 1))
    (kk : ∀ (H1 : Heap) (locs1 : List Loc), mH G (oset L G q (oA st k (upd (st.2.2.1 k) i.toNatClampNeg x)) h) H0 H1 locs1 → W p l e R s m args below meth c H1 locs1 cells slots Q (F0 m (pc + 1) ls rest)) : W p l e R s m args below meth c H locs cells slots Q (F0 m pc ls (.int x :: .int i :: .ref (q k) :: rest)) := by
  have hh := ohas_k hk hs (by decide) (by decide)
  refine mr_iast X hH ((oset_at hq (Nat.le_of_lt hk) hh).trans (congrArg some (oc_k hk hs))) hin hdg (fun H1 locs1 hH => kk H1 locs1 ?_)
  rw [oset_up hq (Nat.le_of_lt hk) hh (st' := oA st k (upd (st.2.2.1 k) i.toNatClampNeg x)) (by rw [oc_k hk hs]; simp [oA, va_up]) (fun j _ _ hjk => by simp [ocell, ofs, oA, va_up, hjk])] at hH
  exact hH
theorem og_bast (X : mX G p m c cc nL s args own) (hq : oinj L q) (hH : mH G (oset L G q st h) H0 H locs) (k : Nat) {n : Nat} (hk : k < L.2.1) (hs : L.2.2 k = (4, n)) {i x : Int32} (hin : vp_in i n) (hdg : decode cc pc = .ok (.bastore, 1))
    (kk : ∀ (H1 : Heap) (locs1 : List Loc), mH G (oset L G q (oA st k (upd (st.2.2.1 k) i.toNatClampNeg (vp_nar .byte x))) h) H0 H1 locs1 → W p l e R s m args below meth c H1 locs1 cells slots Q (F0 m (pc + 1) ls rest)) : W p l e R s m args below meth c H locs cells slots Q (F0 m pc ls (.int x :: .int i :: .ref (q k) :: rest)) := by
  have hh := ohas_k hk hs (by decide) (by decide)
  refine mr_bast X hH ((oset_at hq (Nat.le_of_lt hk) hh).trans (congrArg some (oc_k hk hs))) hin hdg (fun H1 locs1 hH => kk H1 locs1 ?_)
  rw [oset_up hq (Nat.le_of_lt hk) hh (st' := oA st k (upd (st.2.2.1 k) i.toNatClampNeg (vp_nar .byte x))) (by rw [oc_k hk hs]; simp [oA, va_up]) (fun j _ _ hjk => by simp [ocell, ofs, oA, va_up, hjk])] at hH
  exact hH
theorem og_zast (X : mX G p m c cc nL s args own) (hq : oinj L q) (hH : mH G (oset L G q st h) H0 H locs) (k : Nat) {n : Nat} (hk : k < L.2.1) (hs : L.2.2 k = (5, n)) {i x : Int32} (hin : vp_in i n) (hdg : decode cc pc = .ok (.bastore, 1))
    (kk : ∀ (H1 : Heap) (locs1 : List Loc), mH G (oset L G q (oA st k (upd (st.2.2.1 k) i.toNatClampNeg (vp_nar .boolean x))) h) H0 H1 locs1 → W p l e R s m args below meth c H1 locs1 cells slots Q (F0 m (pc + 1) ls rest)) : W p l e R s m args below meth c H locs cells slots Q (F0 m pc ls (.int x :: .int i :: .ref (q k) :: rest)) := by
  have hh := ohas_k hk hs (by decide) (by decide)
  refine mr_zast X hH ((oset_at hq (Nat.le_of_lt hk) hh).trans (congrArg some (oc_k hk hs))) hin hdg (fun H1 locs1 hH => kk H1 locs1 ?_)
  rw [oset_up hq (Nat.le_of_lt hk) hh (st' := oA st k (upd (st.2.2.1 k) i.toNatClampNeg (vp_nar .boolean x))) (by rw [oc_k hk hs]; simp [oA, va_up]) (fun j _ _ hjk => by simp [ocell, ofs, oA, va_up, hjk])] at hH
  exact hH
theorem og_last (X : mX G p m c cc nL s args own) (hq : oinj L q) (hH : mH G (oset L G q st h) H0 H locs) (k : Nat) {n : Nat} (hk : k < L.2.1) (hs : L.2.2 k = (3, n)) {i : Int32} {x : Int64} (hin : vp_in i n) (hdg : decode cc pc = .ok (.lastore, 1))
    (kk : ∀ (H1 : Heap) (locs1 : List Loc), mH G (oset L G q (oB st k (vp_updL (st.2.2.2 k) i.toNatClampNeg x)) h) H0 H1 locs1 → W p l e R s m args below meth c H1 locs1 cells slots Q (F0 m (pc + 1) ls rest)) : W p l e R s m args below meth c H locs cells slots Q (F0 m pc ls (.long x :: .int i :: .ref (q k) :: rest)) := by
  have hh := ohas_k hk hs (by decide) (by decide)
  refine mr_last X hH ((oset_at hq (Nat.le_of_lt hk) hh).trans (congrArg some (oc_k hk hs))) hin hdg (fun H1 locs1 hH => kk H1 locs1 ?_)
  rw [oset_up hq (Nat.le_of_lt hk) hh (st' := oB st k (vp_updL (st.2.2.2 k) i.toNatClampNeg x)) (by rw [oc_k hk hs]; simp [oB, va_up]) (fun j _ _ hjk => by simp [ocell, ofs, oB, va_up, hjk])] at hH
  exact hH
end MO
