/-! the text: duads, sixes -/
theorem grow_from {f : OS × Int32 → Option ((OS × Int32) ⊕ OS)} {P : OS → List Int64 → Prop} (g : Nat → List Int64) {N : Nat} (lo : Nat) (hs : ∀ i s l, lo ≤ i → i < N → P s l → l.length + (g i).length ≤ 64 → ∃ s', f (s, nI i) = some (.inl (s', nI (i + 1))) ∧ P s' (l ++ g i)) (he : ∀ s l, P s l → f (s, nI N) = some (.inr s)) : ∀ (k a : Nat) (s : OS) (l : List Int64), lo ≤ a → a + k = N → P s l → l.length + (gC g a k).length ≤ 64 → ∃ s', lpv f (s, nI a) = some s' ∧ P s' (l ++ gC g a k) := by
  intro k
  induction k with
  | zero =>
    intro a s l _ h hP _
    rw [show a = N by omega]
    exact ⟨s, lpv_out (he s l hP), by show P s (l ++ []); rw [List.append_nil]; exact hP⟩
  | succ k ih =>
    intro a s l hlo h hP hl
    have e : gC g a (k + 1) = g a ++ gC g (a + 1) k := rfl
    rw [e, List.length_append] at hl
    obtain ⟨s1, h1, h2⟩ := hs a s l hlo (by omega) hP (by omega)
    obtain ⟨s2, h3, h4⟩ := ih (a + 1) s1 (l ++ g a) (by omega) (by omega) h2 (by rw [List.length_append]; omega)
    exact ⟨s2, by rw [lpv_in h1]; exact h3, by rw [e, ← List.append_assoc]; exact h4⟩
def prT (i : Nat) : Int32 := mkP.getD i 0
def MT3 (st : OS) : Prop := (∀ i, i < 15 → st.2.2.1 0 i = prT i) ∧ (∀ i, i < 40 → st.2.2.1 1 i = mkV.getD i 0) ∧ ∀ i, i < 81 → st.2.2.1 2 i = mkN.getD i 0
theorem MKR.tabs {st : OS} (h : MKR st) : MT3 st := by
  obtain ⟨x, h1, h2⟩ := init_ex
  have e : st = x := by
    have h3 : f_X3_init = some st := h
    rw [h1] at h3
    exact (Option.some.inj h3).symm
  subst e
  obtain ⟨a1, a2, a3⟩ := mk_all h2
  exact ⟨fun i hi => tab_at a1 hi, fun i hi => tab_at a2 hi, fun i hi => tab_at a3 hi⟩
/-- the class's duads -/
def dgC (z p q r : Nat) : List Int64 := if prT p &&& prT q = 0 then (if (prT p ||| prT q) ||| prT r = 63 then [(bit1 (z + p) ||| bit1 (z + q)) ||| bit1 (z + r)] else []) else []
def dgC2 (z p q : Nat) : List Int64 := gC (dgC z p q) (q + 1) (14 - q)
def dgC1 (z p : Nat) : List Int64 := gC (dgC2 z p) (p + 1) (14 - p)
def dgL (z : Nat) : List Int64 := gC (dgC1 z) 0 15
theorem duads_3 {stm sto : OS} (hm : MT3 stm) {z n : Nat} {l : List Int64} (hz : z ≤ 12) (h : PL sto n l) (hl : l.length + (dgL z).length ≤ 64) : ∃ x, f_X3_appendDuads stm sto (nI z) = some x ∧ PL x n (l ++ dgL z) := by
  obtain ⟨x, e, p⟩ := grow_loop (f := f_X3_appendDuads_2 stm (nI z)) (P := fun s l => PL s n l) (dgC1 z) (N := 15) (fun i s l hi hP hl => by
    obtain ⟨s', e, p⟩ := grow_loop (f := f_X3_appendDuads_13 stm (nI z) (nI i)) (P := fun s l => PL s n l) (dgC2 z i) (N := 15) (fun j s l hj hP hl => by
      obtain ⟨s', e, p⟩ := grow_loop (f := f_X3_appendDuads_26 stm (nI z) (nI i) (nI j)) (P := fun s l => PL s n l) (dgC z i j) (N := 15) (fun k s l hk hP hl => by
        have hst : f_X3_appendDuads_26 stm (nI z) (nI i) (nI j) (s, nI k) = if prT i &&& prT j = 0 then (if (prT i ||| prT j) ||| prT k = 63 then (f_X10_append s ((bit1 (z + i) ||| bit1 (z + j)) ||| bit1 (z + k))).bind (fun x17 => some (.inl (x17, nI (k + 1)))) else some (.inl (s, nI (k + 1)))) else some (.inl (s, nI (k + 1))) := by
          unfold f_X3_appendDuads_26
          dsimp only
          rw [if_neg (show ¬ (15 : Int32) ≤ nI k from nI_ge (b := 15) hk (by decide)), if_pos (inb_t (by omega) (by omega)), if_pos (inb_t (by omega) (by omega)), nI_clamp (by omega), nI_clamp (by omega), nI_clamp (by omega), hm.1 i hi, hm.1 j hj, hm.1 k hk, if_pos (show inb (nI k) 15 = true from inb_t hk (by omega)), nI_add, nI_add, nI_add, sh1 (by omega), sh1 (by omega), sh1 (by omega)]
          dsimp only [bnd]
          rw [nI_1]
        rw [hst]
        unfold dgC at hl ⊢
        by_cases c1 : prT i &&& prT j = 0
        · rw [if_pos c1] at hl ⊢
          rw [if_pos c1]
          by_cases c2 : (prT i ||| prT j) ||| prT k = 63
          · rw [if_pos c2] at hl ⊢
            rw [if_pos c2]
            have hl : l.length + 1 ≤ 64 := hl
            obtain ⟨s', f1, f2⟩ := append_10 hP ((bit1 (z + i) ||| bit1 (z + j)) ||| bit1 (z + k)) (by omega)
            exact ⟨s', by rw [f1, ob_s], f2⟩
          · rw [if_neg c2]
            rw [if_neg c2]
            exact ⟨s, rfl, by rw [List.append_nil]; exact hP⟩
        · rw [if_neg c1]
          rw [if_neg c1]
          exact ⟨s, rfl, by rw [List.append_nil]; exact hP⟩) (fun s l hP => by
        unfold f_X3_appendDuads_26
        dsimp only
        rw [if_pos (show (15 : Int32) ≤ nI 15 by decide)]) (14 - j) (j + 1) s l (by omega) hP hl
      refine ⟨s', ?_, p⟩
      unfold f_X3_appendDuads_13
      dsimp only
      rw [if_neg (show ¬ (15 : Int32) ≤ nI j from nI_ge (b := 15) hj (by decide))]
      dsimp only [bnd]
      rw [nI_1, e, ob_s]) (fun s l hP => by
      unfold f_X3_appendDuads_13
      dsimp only
      rw [if_pos (show (15 : Int32) ≤ nI 15 by decide)]) (14 - i) (i + 1) s l (by omega) hP hl
    refine ⟨s', ?_, p⟩
    unfold f_X3_appendDuads_2
    dsimp only
    rw [if_neg (show ¬ (15 : Int32) ≤ nI i from nI_ge (b := 15) hi (by decide))]
    dsimp only [bnd]
    rw [nI_1, e, ob_s]) (fun s l hP => by
    unfold f_X3_appendDuads_2
    dsimp only
    rw [if_pos (show (15 : Int32) ≤ nI 15 by decide)]) 15 0 sto l (by omega) h hl
  exact ⟨x, by unfold f_X3_appendDuads; rw [show (0 : Int32) = nI 0 from rfl, e, ob_s], p⟩
/-- the reference's pairs, run in the kernel -/
noncomputable def g_pair_4 (b0 : Int32) (b1 : Int32) : (Int32 × Int32) → Option ((Int32 × Int32) ⊕ (Nat × Int32)) := fun z => match z with | (b2, b3) => (if 6 ≤ b3 then some (.inr ((1, b2))) else bnd (b3 + 1 : Int32) (fun v2 => (runN (f_X12_pair_15 b0 b1 b3) 10 ((b2, v2))).bind (fun x27 => match x27 with | (k30, v29) => (if k30 = 0 then some (.inr ((0, v29))) else bnd (b3 + 1 : Int32) (fun v31 => some (.inl ((v29, v31))))))))
theorem gp4_f (b0 b1 : Int32) (z : Int32 × Int32) (v : (Int32 × Int32) ⊕ (Nat × Int32)) (h : g_pair_4 b0 b1 z = some v) : f_X12_pair_4 b0 b1 z = some v := by
  obtain ⟨b2, b3⟩ := z
  unfold g_pair_4 at h
  unfold f_X12_pair_4
  dsimp only at h ⊢
  by_cases c : 6 ≤ b3
  · rw [if_pos c] at h ⊢
    exact h
  · rw [if_neg c] at h ⊢
    simp only [bnd] at h ⊢
    cases hr : runN (f_X12_pair_15 b0 b1 b3) 10 (b2, b3 + 1) with
    | none => rw [hr] at h; cases h
    | some r =>
      rw [hr] at h
      rw [runN_lpv (fun z v h => h) 10 _ _ hr]
      exact h
noncomputable def pairR (a0 a1 : Int32) : Option Int32 := (runN (g_pair_4 a0 a1) 10 (0, 0)).bind (fun x => if x.1 = 0 then some x.2 else some (-1))
theorem pairR_f {a0 a1 v : Int32} (h : pairR a0 a1 = some v) : f_X12_pair a0 a1 = some v := by
  unfold pairR at h
  unfold f_X12_pair
  cases h1 : runN (g_pair_4 a0 a1) 10 (0, 0) with
  | none => rw [h1] at h; cases h
  | some x =>
    rw [h1] at h
    rw [runN_lpv (gp4_f a0 a1) 10 _ _ h1]
    exact h
noncomputable def pN (i j : Nat) : Nat := ((pairR (nI i) (nI j)).getD 0).toNatClampNeg
theorem pN_ok : ∀ i, i < 6 → ∀ j, j < 6 → i ≠ j → pairR (nI i) (nI j) = some (nI (pN i j)) ∧ pN i j < 15 ∧ prT (pN i j) = (((1 : Int32) <<< (nI i &&& 31)) ||| ((1 : Int32) <<< (nI j &&& 31))) ∧ ∀ k, k < pN i j → prT k ≠ (((1 : Int32) <<< (nI i &&& 31)) ||| ((1 : Int32) <<< (nI j &&& 31))) := by decide +kernel
/-- the reference's duads: the least of the second pair; the rest of the six -/
def lsT (b : Nat) : Nat := if b = 1 then 2 else 1
def dvT (b2 b4 : Nat) : Int32 := (63 : Int32) &&& (((((1 : Int32) ||| ((1 : Int32) <<< (nI b2 &&& 31))) ||| ((1 : Int32) <<< (nI (lsT b2) &&& 31))) ||| ((1 : Int32) <<< (nI b4 &&& 31))) ^^^ ((-1)))
noncomputable def eN (b2 b4 : Nat) : Nat := ((runN (f_X12_duads_64 stX3 0 (nI b2) (nI (lsT b2)) (nI b4) (dvT b2 b4)) 10 0).getD 0).toNatClampNeg
noncomputable def fN (b2 b4 : Nat) : Nat := ((runN (f_X12_duads_86 stX3 0 (nI b2) (nI (lsT b2)) (nI b4) (dvT b2 b4) (nI (eN b2 b4))) 10 (nI (eN b2 b4 + 1))).getD 0).toNatClampNeg
noncomputable def efB (b2 b4 : Nat) : Bool := decide (runN (f_X12_duads_64 stX3 0 (nI b2) (nI (lsT b2)) (nI b4) (dvT b2 b4)) 10 0 = some (nI (eN b2 b4))) && (decide (runN (f_X12_duads_86 stX3 0 (nI b2) (nI (lsT b2)) (nI b4) (dvT b2 b4) (nI (eN b2 b4))) 10 (nI (eN b2 b4 + 1)) = some (nI (fN b2 b4))) && (decide (eN b2 b4 < 6) && (decide (fN b2 b4 < 6) && decide (eN b2 b4 ≠ fN b2 b4))))
theorem efB_ok : ∀ b2, b2 < 6 → ∀ b4, b4 < 6 → (1 ≤ b2 ∧ lsT b2 < b4 ∧ b4 ≠ b2) → efB b2 b4 = true := by decide +kernel
theorem ef_ok (b2 : Nat) (h2 : b2 < 6) (b4 : Nat) (h4 : b4 < 6) (h : 1 ≤ b2 ∧ lsT b2 < b4 ∧ b4 ≠ b2) : runN (f_X12_duads_64 stX3 0 (nI b2) (nI (lsT b2)) (nI b4) (dvT b2 b4)) 10 0 = some (nI (eN b2 b4)) ∧ runN (f_X12_duads_86 stX3 0 (nI b2) (nI (lsT b2)) (nI b4) (dvT b2 b4) (nI (eN b2 b4))) 10 (nI (eN b2 b4 + 1)) = some (nI (fN b2 b4)) ∧ eN b2 b4 < 6 ∧ fN b2 b4 < 6 ∧ eN b2 b4 ≠ fN b2 b4 := by
  have h9 := efB_ok b2 h2 b4 h4 h
  unfold efB at h9
  rw [Bool.and_eq_true, Bool.and_eq_true, Bool.and_eq_true, Bool.and_eq_true, decide_eq_true_iff, decide_eq_true_iff, decide_eq_true_iff, decide_eq_true_iff, decide_eq_true_iff] at h9
  exact h9
noncomputable def rgC (z b2 b4 : Nat) : List Int64 := if b4 = b2 then [] else [(bit1 (z + pN 0 b2) ||| bit1 (z + pN (lsT b2) b4)) ||| bit1 (z + pN (eN b2 b4) (fN b2 b4))]
noncomputable def rgC1 (z b2 : Nat) : List Int64 := gC (rgC z b2) (lsT b2 + 1) (5 - lsT b2)
noncomputable def rgL (z : Nat) : List Int64 := gC (rgC1 z) 1 5
theorem dg_rg : dgL 0 = rgL 0 ∧ dgL 12 = rgL 12 ∧ (dgL 0).length = 15 ∧ (dgL 12).length = 15 := by decide +kernel
theorem duads_12 {st s : OS} {z n : Nat} {l : List Int64} (hz : z ≤ 12) (h : NP st n s l) (hl : l.length + (rgL z).length ≤ 64) : ∃ x, f_X12_duads s (nI z) = some x ∧ NP st n x (l ++ rgL z) := by
  have inner : ∀ (b2 : Nat) (s : OS) (l : List Int64), 1 ≤ b2 → b2 < 6 → NP st n s l → l.length + (rgC1 z b2).length ≤ 64 → ∃ s', lpv (f_X12_duads_24 (nI z) (nI b2) (nI (lsT b2))) (s, nI (lsT b2 + 1)) = some s' ∧ NP st n s' (l ++ rgC1 z b2) := fun b2 s l h1 h2 hP hl => by
    have hls : lsT b2 ≤ 2 := by unfold lsT; split <;> omega
    have hls2 : lsT b2 ≠ b2 := by unfold lsT; split <;> omega
    have hls1 : 1 ≤ lsT b2 := by unfold lsT; split <;> omega
    refine grow_from (f := f_X12_duads_24 (nI z) (nI b2) (nI (lsT b2))) (P := NP st n) (rgC z b2) (N := 6) (lsT b2 + 1) (fun b4 s l hlo hi hP hl => ?_) (fun s l hP => ?_) (5 - lsT b2) (lsT b2 + 1) s l (Nat.le_refl _) (by omega) hP hl
    · by_cases c : b4 = b2
      · unfold rgC at hl ⊢
        rw [if_pos c]
        refine ⟨s, ?_, by rw [List.append_nil]; exact hP⟩
        unfold f_X12_duads_24
        dsimp only
        rw [if_neg (show ¬ (6 : Int32) ≤ nI b4 from nI_ge (b := 6) hi (by decide)), if_pos (congrArg nI c)]
        dsimp only [bnd]
        rw [nI_1]
      · obtain ⟨e1, e2, e3, e4, e5⟩ := ef_ok b2 h2 b4 hi ⟨h1, by omega, c⟩
        obtain ⟨p1, p2, -⟩ := pN_ok 0 (by omega) b2 h2 (by omega)
        obtain ⟨q1, q2, -⟩ := pN_ok (lsT b2) (by omega) b4 hi (by omega)
        obtain ⟨r1, r2, -⟩ := pN_ok (eN b2 b4) e3 (fN b2 b4) e4 e5
        unfold rgC at hl ⊢
        rw [if_neg c] at hl ⊢
        have hl : l.length + 1 ≤ 64 := hl
        obtain ⟨s', f1, f2⟩ := puts_12 hP ((bit1 (z + pN 0 b2) ||| bit1 (z + pN (lsT b2) b4)) ||| bit1 (z + pN (eN b2 b4) (fN b2 b4))) (by omega)
        refine ⟨s', ?_, f2⟩
        have e1' : lpv (f_X12_duads_64 s (nI z) (nI b2) (nI (lsT b2)) (nI b4) (dvT b2 b4)) 0 = some (nI (eN b2 b4)) := runN_lpv (f := f_X12_duads_64 s (nI z) (nI b2) (nI (lsT b2)) (nI b4) (dvT b2 b4)) (fun z v h => h) 10 _ _ e1
        have e2' : lpv (f_X12_duads_86 s (nI z) (nI b2) (nI (lsT b2)) (nI b4) (dvT b2 b4) (nI (eN b2 b4))) (nI (eN b2 b4 + 1)) = some (nI (fN b2 b4)) := runN_lpv (f := f_X12_duads_86 s (nI z) (nI b2) (nI (lsT b2)) (nI b4) (dvT b2 b4) (nI (eN b2 b4))) (fun z v h => h) 10 _ _ e2
        unfold f_X12_duads_24
        dsimp only
        rw [if_neg (show ¬ (6 : Int32) ≤ nI b4 from nI_ge (b := 6) hi (by decide)), if_neg (fun y => c ((nI_eq (by omega) (by omega)).mp y))]
        dsimp only [bnd]
        rw [show ((63 : Int32) &&& (((((1 : Int32) ||| ((1 : Int32) <<< (nI b2 &&& 31))) ||| ((1 : Int32) <<< (nI (lsT b2) &&& 31))) ||| ((1 : Int32) <<< (nI b4 &&& 31))) ^^^ ((-1)))) = dvT b2 b4 from rfl, e1', ob_s, nI_1, e2', ob_s, show (0 : Int32) = nI 0 from rfl, pairR_f p1, ob_s, nI_add, bit_12 (by omega), ob_s, pairR_f q1, ob_s, nI_add, bit_12 (by omega), ob_s, pairR_f r1, ob_s, nI_add, bit_12 (by omega), ob_s, f1, ob_s, nI_1]
    · unfold f_X12_duads_24
      dsimp only
      rw [if_pos (show (6 : Int32) ≤ nI 6 by decide)]
  obtain ⟨x, e, p⟩ := grow_from (f := f_X12_duads_2 (nI z)) (P := NP st n) (rgC1 z) (N := 6) 1 (fun b2 s l hlo hi hP hl => by
    obtain ⟨s', f1, f2⟩ := inner b2 s l hlo hi hP hl
    refine ⟨s', ?_, f2⟩
    unfold f_X12_duads_2
    dsimp only
    rw [if_neg (show ¬ (6 : Int32) ≤ nI b2 from nI_ge (b := 6) hi (by decide))]
    dsimp only [bnd]
    by_cases c : b2 = 1
    · subst c
      rw [if_pos (show nI 1 = (1 : Int32) from rfl), show (2 : Int32) + 1 = nI (lsT 1 + 1) from rfl, show (2 : Int32) = nI (lsT 1) from rfl, f1, ob_s, nI_1]
    · have hls : lsT b2 = 1 := if_neg c
      rw [hls] at f1
      rw [if_neg (show ¬ nI b2 = (1 : Int32) from nI_neq (b := 1) (by omega) (by decide) c), show (1 : Int32) + 1 = nI (1 + 1) from rfl, show (1 : Int32) = nI 1 from rfl, f1, ob_s, nI_add]) (fun s l hP => by
    unfold f_X12_duads_2
    dsimp only
    rw [if_pos (show (6 : Int32) ≤ nI 6 by decide)]) 5 1 s l (Nat.le_refl _) (by omega) h hl
  exact ⟨x, by unfold f_X12_duads; rw [show (1 : Int32) = nI 1 from rfl, e, ob_s], p⟩
/-- sixes -/
noncomputable def sxC (i j : Nat) : List Int64 := if j = i then [] else [(bit1 i ||| bit1 (6 + j)) ||| bit1 (12 + pN i j)]
noncomputable def sxC1 (i : Nat) : List Int64 := gC (sxC i) 0 6
noncomputable def sxL : List Int64 := gC sxC1 0 6
theorem sx_len : sxL.length = 30 := by decide +kernel
theorem pairOf_3 {stm : OS} (hm : MT3 stm) {i j : Nat} (hi : i < 6) (hj : j < 6) (hij : i ≠ j) : f_X3_pairOf stm (nI i) (nI j) = some (nI (pN i j)) := by
  obtain ⟨-, p2, p3, p4⟩ := pN_ok i hi j hj hij
  have key := lpv_for (f := f_X3_pairOf_11 stm (((1 : Int32) <<< (nI i &&& 31)) ||| ((1 : Int32) <<< (nI j &&& 31)))) nI (pN i j) (r := (0, nI (pN i j))) (fun k hk => by
    unfold f_X3_pairOf_11
    rw [if_neg (show ¬ (15 : Int32) ≤ nI k from nI_ge (b := 15) (by omega) (by decide)), if_pos (inb_t (by omega) (by omega)), nI_clamp (by omega), hm.1 k (by omega), if_neg (p4 k hk)]
    dsimp only [bnd]
    rw [nI_1]) (by
    unfold f_X3_pairOf_11
    rw [if_neg (show ¬ (15 : Int32) ≤ nI (pN i j) from nI_ge (b := 15) p2 (by decide)), if_pos (inb_t (by omega) (by omega)), nI_clamp (by omega), hm.1 _ p2, if_pos p3]) 0 (Nat.zero_le _)
  unfold f_X3_pairOf
  dsimp only [bnd]
  rw [show (0 : Int32) = nI 0 from rfl, key, ob_s]
  rfl
theorem sixes_3 {stm sto : OS} (hm : MT3 stm) : ∃ x, f_X3_makeSixes stm sto = some x ∧ PL x 27 (sxL ++ dgL 12) := by
  obtain ⟨x0, e0, p0⟩ := clear_10 sto (n := 27) (by decide)
  obtain ⟨x1, e1, p1⟩ := grow_loop (f := f_X3_makeSixes_8 stm) (P := fun s l => PL s 27 l) sxC1 (N := 6) (fun i s l hi hP hl => by
    obtain ⟨s', e, p⟩ := grow_loop (f := f_X3_makeSixes_16 stm (nI i)) (P := fun s l => PL s 27 l) (sxC i) (N := 6) (fun j s l hj hP hl => by
      unfold sxC at hl ⊢
      by_cases c : j = i
      · rw [if_pos c]
        refine ⟨s, ?_, by rw [List.append_nil]; exact hP⟩
        unfold f_X3_makeSixes_16
        dsimp only
        rw [if_neg (show ¬ (6 : Int32) ≤ nI j from nI_ge (b := 6) hj (by decide)), if_pos (congrArg nI c)]
        dsimp only [bnd]
        rw [nI_1]
      · obtain ⟨-, p2, -⟩ := pN_ok i hi j hj (fun y => c y.symm)
        rw [if_neg c] at hl ⊢
        have hl : l.length + 1 ≤ 64 := hl
        obtain ⟨s', f1, f2⟩ := append_10 hP ((bit1 i ||| bit1 (6 + j)) ||| bit1 (12 + pN i j)) (by omega)
        refine ⟨s', ?_, f2⟩
        unfold f_X3_makeSixes_16
        dsimp only
        rw [if_neg (show ¬ (6 : Int32) ≤ nI j from nI_ge (b := 6) hj (by decide)), if_neg (fun y => c ((nI_eq (by omega) (by omega)).mp y)), pairOf_3 hm hi hj (fun y => c y.symm), ob_s, show (6 : Int32) = nI 6 from rfl, show (12 : Int32) = nI 12 from rfl, nI_add, nI_add, sh1 (by omega), sh1 (by omega), sh1 (by omega), f1, ob_s]
        dsimp only [bnd]
        rw [nI_1]) (fun s l hP => by
      unfold f_X3_makeSixes_16
      dsimp only
      rw [if_pos (show (6 : Int32) ≤ nI 6 by decide)]) 6 0 s l (by omega) hP hl
    refine ⟨s', ?_, p⟩
    unfold f_X3_makeSixes_8
    dsimp only
    rw [if_neg (show ¬ (6 : Int32) ≤ nI i from nI_ge (b := 6) hi (by decide)), show (0 : Int32) = nI 0 from rfl, e, ob_s]
    dsimp only [bnd]
    rw [nI_1]) (fun s l hP => by
    unfold f_X3_makeSixes_8
    dsimp only
    rw [if_pos (show (6 : Int32) ≤ nI 6 by decide)]) 6 0 x0 [] (by omega) p0 (by show 0 + sxL.length ≤ 64; rw [sx_len]; decide)
  obtain ⟨x2, e2, p2⟩ := duads_3 (z := 12) hm (by decide) p1 (by show sxL.length + (dgL 12).length ≤ 64; rw [sx_len, dg_rg.2.2.2]; decide)
  refine ⟨x2, ?_, p2⟩
  unfold f_X3_makeSixes
  rw [show (27 : Int32) = nI 27 from rfl, e0, ob_s, show (0 : Int32) = nI 0 from rfl, e1, ob_s, show (12 : Int32) = nI 12 from rfl, e2, ob_s]
theorem sixes_12 {st s : OS} {n : Nat} (h : NP st n s []) : ∃ x, f_X12_sixes s = some x ∧ NP st n x (sxL ++ dgL 12) := by
  obtain ⟨x1, e1, p1⟩ := grow_loop (f := f_X12_sixes_2) (P := NP st n) sxC1 (N := 6) (fun i s l hi hP hl => by
    obtain ⟨s', e, p⟩ := grow_loop (f := f_X12_sixes_10 (nI i)) (P := NP st n) (sxC i) (N := 6) (fun j s l hj hP hl => by
      unfold sxC at hl ⊢
      by_cases c : j = i
      · rw [if_pos c]
        refine ⟨s, ?_, by rw [List.append_nil]; exact hP⟩
        unfold f_X12_sixes_10
        dsimp only
        rw [if_neg (show ¬ (6 : Int32) ≤ nI j from nI_ge (b := 6) hj (by decide)), if_pos (congrArg nI c.symm)]
        dsimp only [bnd]
        rw [nI_1]
      · obtain ⟨p1, p2, -⟩ := pN_ok i hi j hj (fun y => c y.symm)
        rw [if_neg c] at hl ⊢
        have hl : l.length + 1 ≤ 64 := hl
        obtain ⟨s', f1, f2⟩ := puts_12 hP ((bit1 i ||| bit1 (6 + j)) ||| bit1 (12 + pN i j)) (by omega)
        refine ⟨s', ?_, f2⟩
        unfold f_X12_sixes_10
        dsimp only
        rw [if_neg (show ¬ (6 : Int32) ≤ nI j from nI_ge (b := 6) hj (by decide)), if_neg (fun y => c ((nI_eq (by omega) (by omega)).mp y).symm), bit_12 (by omega), ob_s, show (6 : Int32) = nI 6 from rfl, nI_add, bit_12 (by omega), ob_s, pairR_f p1, ob_s, show (12 : Int32) = nI 12 from rfl, nI_add, bit_12 (by omega), ob_s, f1, ob_s]
        dsimp only [bnd]
        rw [nI_1]) (fun s l hP => by
      unfold f_X12_sixes_10
      dsimp only
      rw [if_pos (show (6 : Int32) ≤ nI 6 by decide)]) 6 0 s l (by omega) hP hl
    refine ⟨s', ?_, p⟩
    unfold f_X12_sixes_2
    dsimp only
    rw [if_neg (show ¬ (6 : Int32) ≤ nI i from nI_ge (b := 6) hi (by decide)), show (0 : Int32) = nI 0 from rfl, e, ob_s]
    dsimp only [bnd]
    rw [nI_1]) (fun s l hP => by
    unfold f_X12_sixes_2
    dsimp only
    rw [if_pos (show (6 : Int32) ≤ nI 6 by decide)]) 6 0 s [] (by omega) h (by show 0 + sxL.length ≤ 64; rw [sx_len]; decide)
  obtain ⟨x2, e2, p2⟩ := duads_12 (z := 12) (by decide) p1 (by show sxL.length + (rgL 12).length ≤ 64; rw [← dg_rg.2.1, sx_len, dg_rg.2.2.2]; decide)
  rw [← dg_rg.2.1] at p2
  refine ⟨x2, ?_, p2⟩
  unfold f_X12_sixes
  rw [show (0 : Int32) = nI 0 from rfl, e1, ob_s, show (12 : Int32) = nI 12 from rfl, e2, ob_s]
