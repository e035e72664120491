/-! NEW arrays and objects; constructors -/
section MNW
variable {p : Program} {l : Launch} {e : Env} {R : Room} {s : State} {m : MethodId} {args : Array Value} {below : List Frame} {meth : Method} {c : Code} {H : Heap} {locs : List Loc} {cells slots : Nat} {Q : State → Prop}
variable {cc : ByteArray} {nL pc idx : Nat} {ls : Array Slot} {rest : List Value} {G : mG} {h : mM} {own : String} {a : Nat} {H0 : Heap}
theorem mr_objInit (X : mX G p m c cc nL s args own) (hls : ls.size = nL) (kM : Cond.methodLink own idx objectInit ∈ GW) (kI : Cond.instanceMethod objectInit ∈ GW) (kC : Cond.code objectInit ⟨#[0xb1]⟩ 1 none ∈ GW) (hd : decode cc pc = .ok (.invokespecial idx, 3)) (hframes : 1 ≤ R.frames) (hlocals : (rest.map fun v => v.category).sum + 12 ≤ R.locals)
    (kk : W p l e R s m args below meth c H locs cells slots Q (F0 m (pc + 3) ls rest)) : W p l e R s m args below meth c H locs cells slots Q (F0 m pc ls (.ref a :: rest)) :=
  W.objInit X.x X.b X.ow (X.ts _ kM) (X.ts _ kI) (X.ts _ kC) rfl (by rw [X.1.2.2.1]; exact hls) rfl hd hframes (by show 2 * 0 + _ + 12 ≤ _; omega) kk
theorem mr_newI (X : mX G p m c cc nL s args own) (hH : mH G h H0 H locs) (kA : Cond.arrayClass .int ∈ GW) {n : Int32} {N : Nat} (hn : ¬ n < 0) (hN : n.toNatClampNeg = N) (hbytes : N * 4 ≤ 536870912) (hcells : cells + 1 ≤ R.cells) (hslots : slots + N ≤ R.slots) (hdg : decode cc pc = .ok (.newarray .int, 2))
    (kk : ∀ (x : Nat) (H1 : Heap), h x = none → mH G (va_up h x (some (aI G N (fun _ => 0)))) H0 H1 locs → W p l e R s m args below meth c H1 locs (cells + 1) (slots + N) Q (F0 m (pc + 2) ls (.ref x :: rest))) : W p l e R s m args below meth c H locs cells slots Q (F0 m pc ls (.int n :: rest)) := by
  refine va_newaK (atype := .int) X.x X.b (X.ts _ kA) rfl hdg rfl hn hN hbytes hcells hslots rfl fun H1 cA e1 z1 o1 hAr hNm => ?_
  have hc : cA = G.2.1 0 := Option.some.inj (hNm.symm.trans (X.2.1.2 0 _ rfl).2)
  subst hc
  obtain ⟨hH1, hn1⟩ := hH.mk (e := aI G N (fun _ => 0)) (H1 := H1) e1 z1 o1
  exact kk H.size H1 hn1 hH1
theorem mr_newJ (X : mX G p m c cc nL s args own) (hH : mH G h H0 H locs) (kA : Cond.arrayClass .long ∈ GW) {n : Int32} {N : Nat} (hn : ¬ n < 0) (hN : n.toNatClampNeg = N) (hbytes : N * 8 ≤ 536870912) (hcells : cells + 1 ≤ R.cells) (hslots : slots + N ≤ R.slots) (hdg : decode cc pc = .ok (.newarray .long, 2))
    (kk : ∀ (x : Nat) (H1 : Heap), h x = none → mH G (va_up h x (some (aJ G N (fun _ => 0)))) H0 H1 locs → W p l e R s m args below meth c H1 locs (cells + 1) (slots + N) Q (F0 m (pc + 2) ls (.ref x :: rest))) : W p l e R s m args below meth c H locs cells slots Q (F0 m pc ls (.int n :: rest)) := by
  refine va_newaK (atype := .long) X.x X.b (X.ts _ kA) rfl hdg rfl hn hN hbytes hcells hslots rfl fun H1 cA e1 z1 o1 hAr hNm => ?_
  have hc : cA = G.2.1 1 := Option.some.inj (hNm.symm.trans (X.2.1.2 1 _ rfl).2)
  subst hc
  obtain ⟨hH1, hn1⟩ := hH.mk (e := aJ G N (fun _ => 0)) (H1 := H1) e1 z1 o1
  exact kk H.size H1 hn1 hH1
theorem mr_newB (X : mX G p m c cc nL s args own) (hH : mH G h H0 H locs) (kA : Cond.arrayClass .byte ∈ GW) {n : Int32} {N : Nat} (hn : ¬ n < 0) (hN : n.toNatClampNeg = N) (hbytes : N * 1 ≤ 536870912) (hcells : cells + 1 ≤ R.cells) (hslots : slots + N ≤ R.slots) (hdg : decode cc pc = .ok (.newarray .byte, 2))
    (kk : ∀ (x : Nat) (H1 : Heap), h x = none → mH G (va_up h x (some (aB G N (fun _ => 0)))) H0 H1 locs → W p l e R s m args below meth c H1 locs (cells + 1) (slots + N) Q (F0 m (pc + 2) ls (.ref x :: rest))) : W p l e R s m args below meth c H locs cells slots Q (F0 m pc ls (.int n :: rest)) := by
  refine va_newaK (atype := .byte) X.x X.b (X.ts _ kA) rfl hdg rfl hn hN hbytes hcells hslots rfl fun H1 cA e1 z1 o1 hAr hNm => ?_
  have hc : cA = G.2.1 2 := Option.some.inj (hNm.symm.trans (X.2.1.2 2 _ rfl).2)
  subst hc
  obtain ⟨hH1, hn1⟩ := hH.mk (e := aB G N (fun _ => 0)) (H1 := H1) e1 z1 o1
  exact kk H.size H1 hn1 hH1
theorem mr_newZ (X : mX G p m c cc nL s args own) (hH : mH G h H0 H locs) (kA : Cond.arrayClass .boolean ∈ GW) {n : Int32} {N : Nat} (hn : ¬ n < 0) (hN : n.toNatClampNeg = N) (hbytes : N * 1 ≤ 536870912) (hcells : cells + 1 ≤ R.cells) (hslots : slots + N ≤ R.slots) (hdg : decode cc pc = .ok (.newarray .boolean, 2))
    (kk : ∀ (x : Nat) (H1 : Heap), h x = none → mH G (va_up h x (some (aZ G N (fun _ => 0)))) H0 H1 locs → W p l e R s m args below meth c H1 locs (cells + 1) (slots + N) Q (F0 m (pc + 2) ls (.ref x :: rest))) : W p l e R s m args below meth c H locs cells slots Q (F0 m pc ls (.int n :: rest)) := by
  refine va_newaK (atype := .boolean) X.x X.b (X.ts _ kA) rfl hdg rfl hn hN hbytes hcells hslots rfl fun H1 cA e1 z1 o1 hAr hNm => ?_
  have hc : cA = G.2.1 3 := Option.some.inj (hNm.symm.trans (X.2.1.2 3 _ rfl).2)
  subst hc
  obtain ⟨hH1, hn1⟩ := hH.mk (e := aZ G N (fun _ => 0)) (H1 := H1) e1 z1 o1
  exact kk H.size H1 hn1 hH1
theorem mr_new (X : mX G p m c cc nL s args own) (hH : mH G h H0 H locs) {C : String} {T : u_T} {N ci : Nat} (hin : ∀ w ∈ u_ws C T N, w ∈ GW) (ty : Nat → FieldType) (hty : ∀ k, k < N → parseFieldDescriptor (T k).2.2.1 = some (ty k)) (hc : vwCl[ci]? = some (C, T, N)) (kL : Cond.classLink own idx C ∈ GW) (kB : Cond.instantiable C N ∈ GW) (kN : Cond.initialized C ∈ GW) {fs : List Value} (hfs : ∀ j, j < N → defaultValue (ty j) = vp_V fs j) (hcells : cells + 1 ≤ R.cells) (hslots : slots + N ≤ R.slots) (hdg : decode cc pc = .ok (.new idx, 3))
    (kk : ∀ (x : Nat) (H1 : Heap), h x = none → mH G (va_up h x (some (.inr (ci, fs)))) H0 H1 locs → W p l e R s m args below meth c H1 locs (cells + 1) (slots + N) Q (F0 m (pc + 3) ls (.ref x :: rest))) : W p l e R s m args below meth c H locs cells slots Q (F0 m pc ls rest) := by
  have hKn := X.2.1.1 ci _ hc
  refine W.newcK X.x X.b X.ow (X.ts _ kL) (X.ts _ kB) (X.ts _ kN) rfl hdg hcells hslots hKn.2.1 rfl fun H1 kC hkC e1 z1 o1 => ?_
  obtain ⟨hH1, hn1⟩ := hH.mk (e := .inr (ci, fs)) (H1 := H1) ⟨_, hc, (u_born ty X.ts hin hKn hkC e1 hty).to hfs⟩ z1 o1
  exact kk H.size H1 hn1 hH1
theorem mr_putF (X : mX G p m c cc nL s args own) (hH : mH G h H0 H locs) {C : String} {T : u_T} {N ci : Nat} {fs : List Value} (ha : h a = some (.inr (ci, fs))) (hin : ∀ w ∈ u_ws C T N, w ∈ GW) (ty0 : Nat → FieldType) (hty : ∀ k, k < N → parseFieldDescriptor (T k).2.2.1 = some (ty0 k)) (hnm : ∀ a, a < N → ∀ b, b < N → a ≠ b → (T a).2.1 ≠ (T b).2.1) (hc : vwCl[ci]? = some (C, T, N)) (k : Nat) (hk : k < N) (hlink : Cond.fieldLink own idx (T k).1 (T k).2.1 (T k).2.2.1 ∈ GW) (hfin : (T k).2.2.2 = true) (hin2 : meth.name = "<init>") (hdecl : (T k).1 = own) {v : Value} (hn : narrow (ty0 k) v = v) (hfit : fits (ty0 k) v = true) (hl : k < fs.length) (hdg : decode cc pc = .ok (.putfield idx, 3))
    (kk : ∀ (H1 : Heap) (locs1 : List Loc), mH G (va_up h a (some (.inr (ci, fs.set k v)))) H0 H1 locs1 → W p l e R s m args below meth c H1 locs1 cells slots Q (F0 m (pc + 3) ls rest)) : W p l e R s m args below meth c H locs cells slots Q (F0 m pc ls (v :: .ref a :: rest)) := by
  have hap := va_apart (own := own) X.ts hin ty0 hty hnm X.2.1 hc
  have hP := hH.1.one ha
  obtain ⟨r, h1, cell, q1, q2, q3, q4⟩ := hP 0 _ rfl
  have hr : r = (C, T, N) := Option.some.inj (h1.symm.trans hc)
  subst hr
  obtain ⟨hS, hfc, kC, hkC, hkind⟩ := X.2.1.1 ci _ hc
  obtain ⟨cf, kf, fi, f, hi, hsl⟩ := hS k hk
  have hlay := X.ts _ (hin _ (u_in_lay hk))
  unfold u_lay at hlay
  rw [if_pos hfin] at hlay
  have hst := (u_facts hfc hkC (u_lays X.ts hin hk) hi).1
  have hcf : m.cls = cf := by
    obtain ⟨_, _, c', _, _, _, -, -, hf', -, -, -, hown2, -⟩ := Cond.laysFinal_spec hlay
    have e1 : c' = cf := by have := hi.symm.trans hf'; simp at this; exact this.1.symm
    rw [hdecl] at hown2
    rw [← e1]; exact Option.some.inj (X.ow.symm.trans hown2)
  have h6 := u_fits hfc hkC hkind (Or.inr hlay) hi (hty k hk) hn hfit
  refine W.putFinK X.x X.b X.ow (X.ts _ hlink) hi hst hcf hin2 (by rw [q2]; exact h6) q1 q3 (by rw [hsl]; exact k2_hasslot (q4 k hk)) rfl rfl hdg fun H' e1 e2 e3 => ?_
  rw [hsl] at e1 ⊢
  exact kk H' _ (hH.put ha ⟨_, hc, t_OB.to (V := updV (vp_V fs) k v) ⟨_, e1, q2, q3, t_set q4 hap hk v⟩ (fun j _ => vp_updV_set hl v j)⟩ e2 e3)
end MNW
theorem va_up_s {α : Type} {q : Nat → α} {k : Nat} {v : α} : va_up q k v k = v := by simp [va_up]
/-- what a new object holds -/
def dflt (L : LY) : List Value := (List.range L.2.1).map (fun k => match (L.2.2 k).1 with | 0 => .int 0 | 1 => .long 0 | _ => .null)
def os0 : OS := (fun _ => 0, fun _ => 0, fun _ _ => 0, fun _ _ => 0)
/-- the fields while an object is built: the references of ds are set -/
def pfs (L : LY) (ds : List Nat) (q : Nat → Nat) (st : OS) : List Value := (List.range L.2.1).map (fun k => match (L.2.2 k).1 with | 0 => .int (st.1 k) | 1 => .long (st.2.1 k) | _ => if k ∈ ds then .ref (q k) else .null)
theorem pfs_at {L : LY} {ds : List Nat} {q : Nat → Nat} {st : OS} {k : Nat} (hk : k < L.2.1) : (pfs L ds q st)[k]? = some (match (L.2.2 k).1 with | 0 => .int (st.1 k) | 1 => .long (st.2.1 k) | _ => if k ∈ ds then .ref (q k) else .null) := by
  unfold pfs
  rw [List.getElem?_map, List.getElem?_range hk]
  rfl
theorem pfs_len {L : LY} {ds : List Nat} {q : Nat → Nat} {st : OS} : (pfs L ds q st).length = L.2.1 := by simp [pfs]
theorem pfs_ext {L : LY} {l : List Value} {ds : List Nat} {q : Nat → Nat} {st : OS} (hl : l.length = L.2.1) (h : ∀ k, k < L.2.1 → l[k]? = (pfs L ds q st)[k]?) : l = pfs L ds q st := by
  apply List.ext_getElem?
  intro j
  by_cases hj : j < L.2.1
  · exact h j hj
  · rw [List.getElem?_eq_none (by omega), List.getElem?_eq_none (by rw [pfs_len]; omega)]
theorem pfs_dflt {L : LY} (q : Nat → Nat) : dflt L = pfs L [] q os0 := by
  unfold dflt pfs
  apply List.map_congr_left
  intro k _
  rcases (L.2.2 k).1 with _ | _ | n <;> simp [os0]
/-- an object under construction: its cell at a, its arrays at q k for k in ks, all else as in h -/
def Bl (L : LY) (G : mG) (a : Nat) (h M : mM) (ks ds : List Nat) (q : Nat → Nat) (st : OS) : Prop :=
  M a = some (.inr (L.1, pfs L ds q st)) ∧ (∀ k ∈ ks, k < L.2.1 ∧ M (q k) = some (ocell L G (fun _ => 0) st k) ∧ h (q k) = none ∧ q k ≠ a) ∧ (∀ i ∈ ks, ∀ j ∈ ks, q i = q j → i = j) ∧ (∀ x, x ≠ a → (∀ k ∈ ks, x ≠ q k) → M x = h x)
theorem Bl.start {L : LY} {G : mG} {a : Nat} {h : mM} (q : Nat → Nat) (ha : h a = some (.inr (L.1, dflt L))) : Bl L G a h h [] [] q os0 :=
  ⟨by rw [ha, pfs_dflt q], fun _ hk => absurd hk List.not_mem_nil, fun _ hk => absurd hk List.not_mem_nil, fun _ _ _ => rfl⟩
theorem ocell_q {L : LY} {G : mG} {q q' : Nat → Nat} {st : OS} {k : Nat} (hk : k < L.2.1) : ocell L G q st k = ocell L G q' st k := by simp [ocell, Nat.ne_of_lt hk]
theorem Bl.obj {L : LY} {G : mG} {a : Nat} {h M : mM} {ks ds : List Nat} {q : Nat → Nat} {st : OS} (B : Bl L G a h M ks ds q st) {fs : List Value} (ds' : List Nat) (st' : OS) (hf : fs = pfs L ds' q st') (hc : ∀ k, k < L.2.1 → ocell L G (fun _ => 0) st' k = ocell L G (fun _ => 0) st k) : Bl L G a h (va_up M a (some (.inr (L.1, fs)))) ks ds' q st' := by
  obtain ⟨b1, b2, b3, b4⟩ := B
  refine ⟨by simp [va_up, hf], fun k hk => ⟨(b2 k hk).1, ?_, (b2 k hk).2.2⟩, b3, fun x hx hxk => ?_⟩
  · rw [show va_up M a (some (Sum.inr (L.1, fs))) (q k) = M (q k) by simp [va_up, (b2 k hk).2.2.2], hc k (b2 k hk).1]
    exact (b2 k hk).2.1
  · rw [show va_up M a (some (Sum.inr (L.1, fs))) x = M x by simp [va_up, hx]]
    exact b4 x hx hxk
theorem Bl.ref {L : LY} {G : mG} {a : Nat} {h M : mM} {ks ds : List Nat} {q : Nat → Nat} {st : OS} (B : Bl L G a h M ks ds q st) {x k t : Nat} (hs : (L.2.2 k).1 = t + 2) (hx : x = q k) : Bl L G a h (va_up M a (some (.inr (L.1, (pfs L ds q st).set k (.ref x))))) ks (k :: ds) q st := by
  refine B.obj (k :: ds) st (pfs_ext (by rw [List.length_set, pfs_len]) (fun j hj => ?_)) (fun _ _ => rfl)
  rw [pfs_at hj]
  by_cases z : j = k
  · subst z
    rw [List.getElem?_set_self (by rw [pfs_len]; exact hj), hs, hx]
    simp
  · rw [List.getElem?_set_ne (Ne.symm z), pfs_at hj]
    simp [z]
theorem Bl.int {L : LY} {G : mG} {a : Nat} {h M : mM} {ks ds : List Nat} {q : Nat → Nat} {st : OS} (B : Bl L G a h M ks ds q st) {k : Nat} {v : Int32} (hs : (L.2.2 k).1 = 0) : Bl L G a h (va_up M a (some (.inr (L.1, (pfs L ds q st).set k (.int v))))) ks ds q (oI st k v) := by
  refine B.obj ds (oI st k v) (pfs_ext (by rw [List.length_set, pfs_len]) (fun j hj => ?_)) (fun j hj => by simp [ocell, Nat.ne_of_lt hj, oI])
  rw [pfs_at hj]
  by_cases z : j = k
  · subst z
    rw [List.getElem?_set_self (by rw [pfs_len]; exact hj), hs]
    simp [oI, va_up]
  · rw [List.getElem?_set_ne (Ne.symm z), pfs_at hj]
    simp [oI, va_up, z]
theorem Bl.arr {L : LY} {G : mG} {a : Nat} {h M : mM} {ks ds : List Nat} {q : Nat → Nat} {st : OS} (B : Bl L G a h M ks ds q st) {x k : Nat} (hx : M x = none) (hk : k ∉ ks) (hd : k ∉ ds) (hkN : k < L.2.1) {e : va_E} (he : e = ocell L G (fun _ => 0) st k) : Bl L G a h (va_up M x (some e)) (k :: ks) ds (va_up q k x) st := by
  obtain ⟨b1, b2, b3, b4⟩ := B
  have hxa : x ≠ a := fun z => by rw [z, b1] at hx; cases hx
  have hxq : ∀ j ∈ ks, x ≠ q j := fun j hj z => by rw [z, (b2 j hj).2.1] at hx; cases hx
  have hne : ∀ j ∈ ks, j ≠ k := fun j hj z => hk (z ▸ hj)
  have hsame : pfs L ds (va_up q k x) st = pfs L ds q st := by
    unfold pfs
    apply List.map_congr_left
    intro j _
    rcases (L.2.2 j).1 with _ | _ | n
    · rfl
    · rfl
    · by_cases w : j ∈ ds
      · have : j ≠ k := fun z => hd (z ▸ w)
        simp [w, va_up, this]
      · simp [w]
  refine ⟨by rw [hsame, show va_up M x (some e) a = M a by simp [va_up, Ne.symm hxa], b1], fun j hj => ?_, fun i hi j hj hij => ?_, fun y hy hyk => ?_⟩
  · rcases List.mem_cons.mp hj with z | hj
    · subst z
      simp only [va_up, if_pos]
      exact ⟨hkN, by rw [he], by rw [← b4 x hxa hxq]; exact hx, hxa⟩
    · have h1 := hne j hj
      simp only [va_up, if_neg h1, if_neg (Ne.symm (hxq j hj))]
      exact b2 j hj
  · rcases List.mem_cons.mp hi with zi | wi <;> rcases List.mem_cons.mp hj with zj | wj
    · rw [zi, zj]
    · rw [zi, show va_up q k x k = x by simp [va_up], show va_up q k x j = q j by simp [va_up, hne j wj]] at hij
      exact absurd hij (hxq j wj)
    · rw [zj, show va_up q k x k = x by simp [va_up], show va_up q k x i = q i by simp [va_up, hne i wi]] at hij
      exact absurd hij.symm (hxq i wi)
    · rw [show va_up q k x i = q i by simp [va_up, hne i wi], show va_up q k x j = q j by simp [va_up, hne j wj]] at hij
      exact b3 i wi j wj hij
  · have hyx : y ≠ x := by have := hyk k List.mem_cons_self; simpa [va_up] using this
    rw [show va_up M x (some e) y = M y by simp [va_up, hyx]]
    refine b4 y hy (fun j hj => ?_)
    have := hyk j (List.mem_cons_of_mem _ hj)
    simpa [va_up, hne j hj] using this
theorem Bl.cell {L : LY} {G : mG} {a : Nat} {h M : mM} {ks ds : List Nat} {q : Nat → Nat} {st : OS} (B : Bl L G a h M ks ds q st) {k n : Nat} (hk : k ∈ ks) (hs : L.2.2 k = (2, n)) (f : Nat → Int32) : Bl L G a h (va_up M (q k) (some (aI G n f))) ks ds q (oA st k f) := by
  obtain ⟨b1, b2, b3, b4⟩ := B
  refine ⟨?_, fun j hj => ⟨(b2 j hj).1, ?_, (b2 j hj).2.2⟩, b3, fun y hy hyk => ?_⟩
  · rw [show va_up M (q k) (some (aI G n f)) a = M a by simp [va_up, Ne.symm (b2 k hk).2.2.2], b1]
    simp [pfs, oA]
  · by_cases z : j = k
    · subst z
      rw [show va_up M (q j) (some (aI G n f)) (q j) = some (aI G n f) by simp [va_up], oc_k (b2 j hj).1 hs]
      simp [oA, va_up]
    · have : q j ≠ q k := fun w => z (b3 j hj k hk w)
      rw [show va_up M (q k) (some (aI G n f)) (q j) = M (q j) by simp [va_up, this], (b2 j hj).2.1]
      simp [ocell, Nat.ne_of_lt (b2 j hj).1, oA, va_up, z]
  · rw [show va_up M (q k) (some (aI G n f)) y = M y by simp [va_up, hyk k hk]]
    exact b4 y hy hyk
theorem Bl.at {L : LY} {G : mG} {a : Nat} {h M : mM} {ks ds : List Nat} {q : Nat → Nat} {st : OS} (B : Bl L G a h M ks ds q st) {k n : Nat} (hk : k ∈ ks) (hs : L.2.2 k = (2, n)) : M (q k) = some (aI G n (st.2.2.1 k)) := by
  rw [(B.2.1 k hk).2.1, oc_k (B.2.1 k hk).1 hs]
  rfl
theorem Bl.done {L : LY} {G : mG} {a : Nat} {h M : mM} {ks ds : List Nat} {q : Nat → Nat} {st : OS} (B : Bl L G a h M ks ds q st) (hk : (List.range L.2.1).all (fun k => ohas L k == ks.contains k && (decide ((L.2.2 k).1 < 2) || ds.contains k)) = true) :
    M = oset L G (va_up q L.2.1 a) st h ∧ oinj L (va_up q L.2.1 a) ∧ ∀ k, k < L.2.1 → ohas L k = true → h (va_up q L.2.1 a k) = none := by
  obtain ⟨b1, b2, b3, b4⟩ := B
  have key : ∀ k, k < L.2.1 → (ohas L k = true ↔ k ∈ ks) ∧ ((L.2.2 k).1 < 2 ∨ k ∈ ds) := by
    intro k z
    have := List.all_eq_true.mp hk k (List.mem_range.mpr z)
    simp only [Bool.and_eq_true, beq_iff_eq, Bool.or_eq_true, decide_eq_true_eq, List.contains_iff_mem] at this
    refine ⟨?_, this.2⟩
    rw [this.1]
    simp
  have hqN : va_up q L.2.1 a L.2.1 = a := by simp [va_up]
  have hqk : ∀ k, k < L.2.1 → va_up q L.2.1 a k = q k := fun k z => by simp [va_up, Nat.ne_of_lt z]
  have inj : oinj L (va_up q L.2.1 a) := by
    intro i j hi hj h1 h2 hij
    by_cases zi : i = L.2.1 <;> by_cases zj : j = L.2.1
    · rw [zi, zj]
    · have wj := (key j (by omega)).1.mp h2
      rw [zi, hqN, hqk j (by omega)] at hij
      exact absurd hij.symm (b2 j wj).2.2.2
    · have wi := (key i (by omega)).1.mp h1
      rw [zj, hqN, hqk i (by omega)] at hij
      exact absurd hij (b2 i wi).2.2.2
    · have wi := (key i (by omega)).1.mp h1
      have wj := (key j (by omega)).1.mp h2
      rw [hqk i (by omega), hqk j (by omega)] at hij
      exact b3 i wi j wj hij
  have hf : pfs L ds q st = ofs L (va_up q L.2.1 a) st := by
    unfold pfs ofs
    apply List.map_congr_left
    intro k hkr
    have z := List.mem_range.mp hkr
    rcases hs : (L.2.2 k).1 with _ | _ | n
    · rfl
    · rfl
    · have := (key k z).2
      rw [hs] at this
      have w : k ∈ ds := by rcases this with g | g; · omega
                            · exact g
      simp [w, hqk k z]
  refine ⟨?_, inj, fun k hk' hh => ?_⟩
  · funext x
    cases hx : oidx L (va_up q L.2.1 a) x with
    | some k =>
      obtain ⟨g1, g2, g3⟩ := oidx_some hx
      rw [show oset L G (va_up q L.2.1 a) st h x = some (ocell L G (va_up q L.2.1 a) st k) by simp [oset, hx], ← g3]
      by_cases zk : k = L.2.1
      · subst zk
        rw [hqN, b1, ocell_N, hf]
      · have wk := (key k (by omega)).1.mp g2
        rw [hqk k (by omega), (b2 k wk).2.1, ocell_q (by omega)]
    | none =>
      rw [show oset L G (va_up q L.2.1 a) st h x = h x by simp [oset, hx]]
      have hno : ∀ k, k ≤ L.2.1 → ohas L k = true → x ≠ va_up q L.2.1 a k := by
        intro k g1 g2 z
        have := oidx_at inj g1 g2
        rw [← z, hx] at this
        cases this
      refine b4 x (by rw [← hqN]; exact hno L.2.1 (Nat.le_refl _) ohas_N) (fun k wk => ?_)
      have wl := (b2 k wk).1
      rw [← hqk k wl]
      exact hno k (Nat.le_of_lt wl) ((key k wl).1.mpr wk)
  · have wk := (key k hk').1.mp hh
    rw [hqk k hk']
    exact (b2 k wk).2.2.1
theorem lump {G : mG} {L : LY} {M : mM} {H0 H : Heap} {locs : List Loc} {a : Nat} {h : mM} {ks ds : List Nat} {q : Nat → Nat} {st : OS} (h1 : mH G M H0 H locs) (h2 : Bl L G a h M ks ds q st) : ∃ M', mH G M' H0 H locs ∧ Bl L G a h M' ks ds q st := ⟨_, h1, h2⟩
