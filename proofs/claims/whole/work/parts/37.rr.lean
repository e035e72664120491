/-! the reference's whole state -/
abbrev Kt : OS → OS → Prop := Keep (inL [0, 1, 5, 13, 14, 44, 45]) (inL [4, 40, 41, 42, 43, 46, 47, 49, 50, 51]) (inL [3, 38, 39, 48, 52])
def TR (st : OS) (tc : Nat → Option (Nat × List Int64)) : Prop := ∀ j, j < 4 → (tc j = none → st.2.2.1 46 j = -1) ∧ ∀ so row, tc j = some (so, row) → st.2.2.1 46 j = nI so ∧ so ≤ 3 ∧ st.2.2.1 47 j = nI row.length ∧ row.length ≤ 40 ∧ ∀ i, i < row.length → st.2.2.2 48 (40 * j + i) = wl row i
def IR (st : OS) (ic : Nat → Option Wd) : Prop := ∀ j, j < 3 → (ic j = none → st.2.2.1 49 j = 0) ∧ ∀ w, ic j = some w → st.2.2.1 49 j ≠ 0 ∧ Snap (st.2.2.1 50) (st.2.2.1 51) (st.2.2.2 52) j w
def RR (st : OS) (s : Wst) (tp : Nat → Int32) (hd : Nat) (wr wa : Int32) (ic : Nat → Option Wd) (tc : Nat → Option (Nat × List Int64)) : Prop :=
  RWo st s.1.1 s.1.2 ∧ RH st s.2.1 s.2.2 ∧ (st.1 5 = nI hd ∧ hd ≤ 700 ∧ ∀ i, i < hd → st.2.2.1 4 i = tp i) ∧ (st.1 13 = wr ∧ st.1 14 = wa) ∧ TR st tc ∧ IR st ic
section RRS
variable {st x : OS} {s s' : Wst} {tp : Nat → Int32} {hd : Nat} {wr wa : Int32} {ic : Nat → Option Wd} {tc : Nat → Option (Nat × List Int64)}
theorem Kp.t (h : Kp st x) : Kt st x := Keep.mono h (inL_sub (by decide)) (inL_sub (by decide)) (inL_sub (by decide))
theorem Kt.thr (v : Int32) : Kt st (oI st 2 v) := Keep.rf.oI rfl
theorem TR.cong (h : TR st tc) (h1 : x.2.2.1 46 = st.2.2.1 46) (h2 : x.2.2.1 47 = st.2.2.1 47) (h3 : x.2.2.2 48 = st.2.2.2 48) : TR x tc := fun j hj => by rw [h1, h2, h3]; exact h j hj
theorem IR.cong (h : IR st ic) (h1 : x.2.2.1 49 = st.2.2.1 49) (h2 : x.2.2.1 50 = st.2.2.1 50) (h3 : x.2.2.1 51 = st.2.2.1 51) (h4 : x.2.2.2 52 = st.2.2.2 52) : IR x ic := fun j hj => by rw [h1, h2, h3, h4]; exact h j hj
theorem RR.kt (h : RR st s tp hd wr wa ic tc) (k : Kt st x) : RR x s tp hd wr wa ic tc := by
  obtain ⟨h1, ⟨h2, h3, h4, h5, h6⟩, ⟨h7, h8, h9⟩, ⟨h10, h11⟩, h12, h13⟩ := h
  obtain ⟨kI, kA, kB⟩ := k
  refine ⟨h1.cong (kI 0 rfl) (kI 1 rfl) (kB 3 rfl), ⟨(kI 44 rfl).trans h2, (kI 45 rfl).trans h3, h4, ?_, ?_⟩, ⟨(kI 5 rfl).trans h7, h8, fun i hi => by rw [kA 4 rfl]; exact h9 i hi⟩, ⟨(kI 13 rfl).trans h10, (kI 14 rfl).trans h11⟩, h12.cong (kA 46 rfl) (kA 47 rfl) (kB 48 rfl), h13.cong (kA 49 rfl) (kA 50 rfl) (kA 51 rfl) (kB 52 rfl)⟩
  · rw [kA 40 rfl, kA 41 rfl, kB 38 rfl]; exact h5
  · rw [kA 42 rfl, kA 43 rfl, kB 39 rfl]; exact h6
theorem RR.thr (h : RR st s tp hd wr wa ic tc) (v : Int32) : RR (oI st 2 v) s tp hd wr wa ic tc := h.kt (Kt.thr v)
theorem RR.kq (h : RR st s tp hd wr wa ic tc) (k : Kq st x) (hw : RWo x s'.1.1 s'.1.2) (hH : RH x s'.2.1 s'.2.2) : RR x s' tp hd wr wa ic tc := by
  obtain ⟨-, -, ⟨h7, h8, h9⟩, ⟨h10, h11⟩, h12, h13⟩ := h
  obtain ⟨kI, kA, kB⟩ := k
  exact ⟨hw, hH, ⟨(kI 5 rfl).trans h7, h8, fun i hi => by rw [kA 4 rfl]; exact h9 i hi⟩, ⟨(kI 13 rfl).trans h10, (kI 14 rfl).trans h11⟩, h12.cong (kA 46 rfl) (kA 47 rfl) (kB 48 rfl), h13.cong (kA 49 rfl) (kA 50 rfl) (kA 51 rfl) (kB 52 rfl)⟩
theorem ne_le (v : Int32) : ((oI st 2 v).1 2) = v := oI_self st 2 v
theorem r_add (h : RR st s tp hd wr wa ic tc) (set : Int64) : ∃ v x, f_X12_add st set = some (v, x) ∧ ((¬ (set &&& (fst64 s.1.1 ^^^ (-1)) = 0) ∨ pcn set < 2) → x.1 2 = 1 ∧ RR x s tp hd wr wa ic tc) ∧ (set &&& (fst64 s.1.1 ^^^ (-1)) = 0 → 2 ≤ pcn set → x.1 2 = 0 ∧ ((s.1.2.length = 64 ∧ v = -1 ∧ RR x s tp hd wr wa ic tc) ∨ (s.1.2.length < 64 ∧ v = nI s.1.2.length ∧ RR x ((s.1.1, s.1.2 ++ [set]), pushW s.2.1 s.1, []) tp hd wr wa ic tc))) := by
  have hp := pcn_le set
  unfold f_X12_add
  rw [isSet_12 h.1, ob_s]
  by_cases h1 : set &&& (fst64 s.1.1 ^^^ (-1)) = 0
  · rw [if_pos h1, if_neg (show ¬ (1 : Int32) = 0 by decide), ones_12, ob_s]
    by_cases h2 : pcn set < 2
    · rw [if_pos (show nI (pcn set) < (2 : Int32) from nI_lt (b := 2) h2 (by decide))]
      dsimp only [bnd]
      rw [ne_le, if_neg (show ¬ (1 : Int32) ≤ 0 by decide)]
      exact ⟨_, _, rfl, fun _ => ⟨ne_le 1, h.thr 1⟩, fun _ z => absurd z (by omega)⟩
    · rw [if_neg (show ¬ nI (pcn set) < (2 : Int32) from nI_nlt (a := pcn set) (b := 2) (by omega) (by omega))]
      dsimp only [bnd]
      rw [ne_le, if_pos (show (0 : Int32) ≤ 0 by decide)]
      have h0 := h.thr 0
      obtain ⟨g1, g2⟩ := adds_12 h0.1 h0.2.1 set
      rcases Nat.lt_or_ge s.1.2.length 64 with h3 | h3
      · obtain ⟨x, e, g3, g4, g5⟩ := g2 h3
        rw [e, ob_s]
        exact ⟨_, _, rfl, fun z => z.elim (fun z => absurd h1 z) (fun z => absurd z h2), fun _ _ => ⟨(g5.1 2 rfl).trans (ne_le 0), Or.inr ⟨h3, rfl, h0.kq (s' := (_, _, _)) g5 g3 g4⟩⟩⟩
      · have h4 : s.1.2.length = 64 := by have := h.1.2.2.2.1; omega
        rw [g1 h4, ob_s]
        exact ⟨_, _, rfl, fun z => z.elim (fun z => absurd h1 z) (fun z => absurd z h2), fun _ _ => ⟨ne_le 0, Or.inl ⟨h4, rfl, h0⟩⟩⟩
  · rw [if_neg h1, if_pos rfl]
    dsimp only [bnd]
    rw [ne_le, if_neg (show ¬ (1 : Int32) ≤ 0 by decide)]
    exact ⟨_, _, rfl, fun _ => ⟨ne_le 1, h.thr 1⟩, fun z => absurd z h1⟩
theorem out_or {i : Int32} {n : Nat} : (i < 0 ∨ nI n ≤ i) ∨ ∃ j, i = nI j ∧ j < n := by
  by_cases h1 : i < 0
  · exact Or.inl (Or.inl h1)
  · obtain ⟨j, hj, rfl⟩ := nI_of h1
    rcases Nat.lt_or_ge j n with h2 | h2
    · exact Or.inr ⟨j, rfl, h2⟩
    · exact Or.inl (Or.inr (nI_le h2 hj))
theorem in_not {j n : Nat} (hn : n ≤ 64) (h : j < n) : ¬ (nI j < 0 ∨ nI n ≤ nI j) := fun z => z.elim (nI_pos (by omega)) (nI_ge h (by omega))
theorem r_drop (h : RR st s tp hd wr wa ic tc) (i : Int32) : ∃ v x, f_X12_drop st i = some (v, x) ∧ ((i < 0 ∨ nI s.1.2.length ≤ i) → x.1 2 = 1 ∧ RR x s tp hd wr wa ic tc) ∧ (∀ j, i = nI j → j < s.1.2.length → x.1 2 = 0 ∧ v = wl s.1.2 j ∧ RR x ((s.1.1, s.1.2.eraseIdx j), pushW s.2.1 s.1, []) tp hd wr wa ic tc) := by
  have h0 := h.thr 0
  unfold f_X12_drop
  dsimp only [bnd]
  rw [isLine_12 h0.1, ob_s]
  rcases out_or (i := i) (n := s.1.2.length) with h1 | ⟨j, rfl, hj⟩
  · rw [if_pos h1, if_pos rfl]
    exact ⟨_, _, rfl, fun _ => ⟨ne_le 1, h0.thr 1⟩, fun j e hj => by subst e; exact absurd h1 (in_not h.1.2.2.2.1 hj)⟩
  · have h1 := in_not h.1.2.2.2.1 hj
    rw [if_neg h1, if_neg (show ¬ (1 : Int32) = 0 by decide)]
    obtain ⟨x, e, g1, g2, g3⟩ := drops_12 h0.1 h0.2.1 hj
    rw [e, ob_s]
    exact ⟨_, _, rfl, fun z => absurd z h1, fun k e hk => by
      have := (nI_eq (by have := h.1.2.2.2.1; omega) (by have := h.1.2.2.2.1; omega)).mp e
      subst this
      exact ⟨(g3.1 2 rfl).trans (ne_le 0), rfl, h0.kq (s' := (_, _, _)) g3 g1 g2⟩⟩
theorem r_dual (h : RR st s tp hd wr wa ic tc) : ∃ x, f_X12_dual st = some (nI (dualW s.1).1, x) ∧ x.1 2 = 0 ∧ RR x (dualW s.1, pushW s.2.1 s.1, []) tp hd wr wa ic tc := by
  have h0 := h.thr 0
  unfold f_X12_dual
  dsimp only [bnd]
  obtain ⟨x, e, g1, g2, g3⟩ := duals_12 h0.1 h0.2.1
  rw [e, ob_s, g1.1]
  exact ⟨x, rfl, (g3.1 2 rfl).trans (ne_le 0), h0.kq (s' := (_, _, _)) g3 g1 g2⟩
theorem r_left (h : RR st s tp hd wr wa ic tc) (i : Int32) : ∃ v x, f_X12_left st i = some (v, x) ∧ ((i < 0 ∨ nI s.1.1 ≤ i) → x.1 2 = 1 ∧ RR x s tp hd wr wa ic tc) ∧ (∀ j, i = nI j → j < s.1.1 → x.1 2 = 0 ∧ v = nI (leftW s.1 j).1 ∧ RR x (leftW s.1 j, pushW s.2.1 s.1, []) tp hd wr wa ic tc) := by
  have h0 := h.thr 0
  unfold f_X12_left
  dsimp only [bnd]
  rw [isPoint_12 h0.1, ob_s]
  rcases out_or (i := i) (n := s.1.1) with h1 | ⟨j, rfl, hj⟩
  · rw [if_pos h1, if_pos rfl]
    exact ⟨_, _, rfl, fun _ => ⟨ne_le 1, h0.thr 1⟩, fun j e hj => by subst e; exact absurd h1 (in_not h.1.2.2.1 hj)⟩
  · have h1 := in_not h.1.2.2.1 hj
    rw [if_neg h1, if_neg (show ¬ (1 : Int32) = 0 by decide)]
    obtain ⟨x, e, g1, g2, g3⟩ := leaves_12 h0.1 h0.2.1 hj
    rw [e, ob_s]
    exact ⟨_, _, rfl, fun z => absurd z h1, fun k e hk => by
      have := (nI_eq (by have := h.1.2.2.1; omega) (by have := h.1.2.2.1; omega)).mp e
      subst this
      exact ⟨(g3.1 2 rfl).trans (ne_le 0), g1.1, h0.kq (s' := (_, _, _)) g3 g1 g2⟩⟩
theorem r_undo (h : RR st s tp hd wr wa ic tc) : ∃ v x, f_X12_undo st = some (v, x) ∧ x.1 2 = 0 ∧ (s.2.1 = [] → v = 0 ∧ RR x s tp hd wr wa ic tc) ∧ (∀ b0 w, s.2.1 = b0 ++ [w] → v = 1 ∧ RR x (w, b0, s.2.2 ++ [s.1]) tp hd wr wa ic tc) := by
  have h0 := h.thr 0
  unfold f_X12_undo
  dsimp only [bnd]
  obtain ⟨g1, g2⟩ := undoes_12 h0.1 h0.2.1
  by_cases hb : s.2.1 = []
  · rw [g1 hb, ob_s]
    exact ⟨_, _, rfl, ne_le 0, fun _ => ⟨rfl, h0⟩, fun b0 w e => absurd (hb.symm.trans e) (by simp)⟩
  · obtain ⟨b0, w, e⟩ := snoc_of hb
    obtain ⟨x, e1, e2, e3, e4⟩ := g2 b0 w e
    rw [e1, ob_s]
    refine ⟨_, _, rfl, (e4.1 2 rfl).trans (ne_le 0), fun z => absurd z hb, fun b1 w1 e5 => ⟨rfl, ?_⟩⟩
    rw [e] at e5
    obtain ⟨rfl, e6⟩ := List.append_inj' e5 rfl
    cases e6
    exact h0.kq (s' := (_, _, _)) e4 e2 e3
theorem r_again (h : RR st s tp hd wr wa ic tc) : ∃ v x, f_X12_again st = some (v, x) ∧ x.1 2 = 0 ∧ (s.2.2 = [] → v = 0 ∧ RR x s tp hd wr wa ic tc) ∧ (∀ a0 w, s.2.2 = a0 ++ [w] → v = 1 ∧ RR x (w, s.2.1 ++ [s.1], a0) tp hd wr wa ic tc) := by
  have h0 := h.thr 0
  unfold f_X12_again
  dsimp only [bnd]
  obtain ⟨g1, g2⟩ := again_12 h0.1 h0.2.1
  by_cases hb : s.2.2 = []
  · rw [g1 hb, ob_s]
    exact ⟨_, _, rfl, ne_le 0, fun _ => ⟨rfl, h0⟩, fun b0 w e => absurd (hb.symm.trans e) (by simp)⟩
  · obtain ⟨b0, w, e⟩ := snoc_of hb
    obtain ⟨x, e1, e2, e3, e4⟩ := g2 b0 w e
    rw [e1, ob_s]
    refine ⟨_, _, rfl, (e4.1 2 rfl).trans (ne_le 0), fun z => absurd z hb, fun b1 w1 e5 => ⟨rfl, ?_⟩⟩
    rw [e] at e5
    obtain ⟨rfl, e6⟩ := List.append_inj' e5 rfl
    cases e6
    exact h0.kq (s' := (_, _, _)) e4 e2 e3
theorem r_fault (h : RR st s tp hd wr wa ic tc) (i : Int32) : ∃ x, f_X12_fault st i = some ((if i = 0 then wr else if i = 1 then wa else -1), x) ∧ x.1 2 = 0 ∧ RR x s tp hd wr wa ic tc := by
  have h0 := h.thr 0
  refine ⟨oI st 2 0, ?_, ne_le 0, h0⟩
  unfold f_X12_fault
  dsimp only [bnd]
  rw [h0.2.2.2.1.1, h0.2.2.2.1.2]
  repeat' split <;> first | rfl | skip
theorem r_count (h : RR st s tp hd wr wa ic tc) (i : Int32) : ∃ x, f_X12_count st i = some ((if i = 0 then nI s.1.1 else if i = 1 then nI s.1.2.length else if i = 2 then nI hd else if i = 3 then nI s.2.1.length else if i = 4 then nI s.2.2.length else -1), x) ∧ x.1 2 = 0 ∧ RR x s tp hd wr wa ic tc := by
  have h0 := h.thr 0
  refine ⟨oI st 2 0, ?_, ne_le 0, h0⟩
  unfold f_X12_count
  dsimp only [bnd]
  rw [h0.1.1, h0.1.2.1, h0.2.2.1.1, h0.2.1.1, h0.2.1.2.1]
  repeat' split <;> first | rfl | skip
end RRS
