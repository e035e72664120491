/-! questions: tight, spanned, triads -/
theorem foldE_inv {σ ρ : Type} {g g' : Nat → σ → σ ⊕ ρ} {out : σ → ρ} (I : Nat → σ → Prop) : ∀ {k a : Nat} {s : σ}, (∀ i s, a ≤ i → i < a + k → I i s → g i s = g' i s ∧ ∀ s', g i s = .inl s' → I (i + 1) s') → I a s → foldE g out a k s = foldE g' out a k s := by
  intro k
  induction k with
  | zero => intro a s _ _; rfl
  | succ k ih =>
    intro a s h hI
    obtain ⟨h1, h2⟩ := h a s (Nat.le_refl _) (by omega) hI
    simp only [foldE]
    rw [← h1]
    cases hg : g a s with
    | inl s' => exact ih (fun i s h3 h4 => h i s (by omega) (by omega)) (h2 s' hg)
    | inr r => rfl
section Q3
variable {st : OS} {w : Wd}
/-- what a point has in a set, less what a line has within it -/
def tgV (w : Wd) (s : Int64) (less : Int32) (p : Nat) : Int32 := nI (pcn (nearF w.2 p &&& s)) - (if tb s p = true then less else 0)
def tgG (w : Wd) (s : Int64) (less : Int32) : Nat → Int32 → Int32 ⊕ (Nat × Int32) := fun p b => if tgV w s less p < 0 then .inr (0, b) else if p = 0 then .inl (tgV w s less p) else if tgV w s less p = b then .inl (tgV w s less p) else .inr (0, b)
def tgG' (w : Wd) (s : Int64) (less : Int32) : Nat → Int32 → Int32 ⊕ (Nat × Int32) := fun p b => if tgV w s less p < 0 then .inr (0, b) else if b = -1 then .inl (tgV w s less p) else if tgV w s less p = b then .inl (tgV w s less p) else .inr (0, b)
def tgO : Int32 → Nat × Int32 := fun b => (1, b)
def tgF (w : Wd) (s : Int64) : Nat × Int32 := foldE (tgG w s (nI (pcn (wl w.2 0)) - 2)) tgO 0 w.1 (-1)
theorem tgF_eq (w : Wd) (s : Int64) : foldE (tgG' w s (nI (pcn (wl w.2 0)) - 2)) tgO 0 w.1 (-1) = tgF w s := by
  refine (foldE_inv (fun i b => (i = 0 → b = -1) ∧ (i ≠ 0 → ¬ b < 0)) (fun i b h1 h2 hI => ?_) ⟨fun _ => rfl, fun z => absurd rfl z⟩).symm
  unfold tgG tgG'
  by_cases z : tgV w s (nI (pcn (wl w.2 0)) - 2) i < 0
  · rw [if_pos z, if_pos z]
    exact ⟨rfl, fun s' e => by cases e⟩
  · rw [if_neg z, if_neg z]
    by_cases hi : i = 0
    · rw [if_pos hi, if_pos (hI.1 hi)]
      exact ⟨rfl, fun s' e => by cases e; exact ⟨fun y => absurd y (by omega), fun _ => z⟩⟩
    · rw [if_neg hi, if_neg (fun (e : b = -1) => hI.2 hi (by rw [e]; exact m1_lt))]
      refine ⟨rfl, fun s' e => ?_⟩
      split at e
      · cases e; exact ⟨fun y => absurd y (by omega), fun _ => z⟩
      · cases e
def tgW (w : Wd) (s : Int64) : Int32 := if w.2.length = 0 then -1 else if (tgF w s).1 = 0 then -1 else (tgF w s).2
theorem tight_10 {stn : OS} (hw : CW stn w) (s : Int64) : f_X6_tightBy stn s = some (tgW w s) := by
  have hl := hw.1.2.2.2.1
  have hn := hw.1.2.2.1
  unfold f_X6_tightBy tgW
  rw [hw.1.2.1]
  by_cases h1 : w.2.length = 0
  · rw [if_pos h1, if_pos (by rw [h1]; rfl)]
  · have e0 : f_X10_setAt stn 0 = some (wl w.2 0) := setAt_10 hw.1 (i := 0) (by omega)
    rw [if_neg h1, if_neg (nI_ne0 (by omega) (by omega)), e0, ob_s, bitCount_13, ob_s]
    have key : lpv (f_X6_tightBy_26 stn s (nI (pcn (wl w.2 0)) - 2)) (-1, nI 0) = some (tgF w s) := lpv_foldE (N := w.1) (fun i b => (b, nI i)) (tgG w s (nI (pcn (wl w.2 0)) - 2)) tgO (fun i b hi => by
      have hx : ∀ v : Int32, (if v < 0 then some (Sum.inr (0, b)) else if nI i ≤ 0 then some (.inl (v, nI i + 1)) else if v = b then some (.inl (v, nI i + 1)) else some (.inr (0, b)) : Option ((Int32 × Int32) ⊕ (Nat × Int32))) = opE (fun b => (b, nI (i + 1))) (if v < 0 then .inr (0, b) else if i = 0 then .inl v else if v = b then .inl v else .inr (0, b) : Int32 ⊕ (Nat × Int32)) := fun v => by
        rw [nI_1]
        by_cases z1 : v < 0
        · rw [if_pos z1, if_pos z1]
          rfl
        · rw [if_neg z1, if_neg z1]
          by_cases z2 : i = 0
          · rw [if_pos z2, if_pos (by rw [z2]; decide)]
            rfl
          · rw [if_neg z2, if_neg (nI_nle (by omega) (by omega))]
            by_cases z3 : v = b
            · rw [if_pos z3, if_pos z3]
              rfl
            · rw [if_neg z3, if_neg z3]
              rfl
      unfold f_X6_tightBy_26 tgG tgV
      dsimp only
      rw [hw.1.1, if_neg (nI_ge hi (by omega)), nearAt_10 hw hi, ob_s, bitCount_13, ob_s, has_10 (by omega), ob_s]
      cases tb s i with
      | false => rw [if_pos b2f]; exact hx (nI (pcn (nearF w.2 i &&& s)) - 0)
      | true => rw [if_neg b2t]; exact hx (nI (pcn (nearF w.2 i &&& s)) - (nI (pcn (wl w.2 0)) - 2))) (fun b => by
      unfold f_X6_tightBy_26
      dsimp only
      rw [hw.1.1, if_pos (nI_le (Nat.le_refl _) (by omega))]
      rfl) 0 (-1) (Nat.zero_le _)
    dsimp only [bnd]
    rw [show ((-1, 0) : Int32 × Int32) = (-1, nI 0) from rfl, key, ob_s]
    by_cases z : (tgF w s).1 = 0
    · rw [if_pos z, if_pos z]
    · rw [if_neg z, if_neg z]
theorem tight_12 {y : OS} (hy : RN y w) (s : Int64) : lpv (f_X12_tight_57 y s (nI (pcn (wl w.2 0)) - 2)) (-1, 0) = some (tgF w s) := by
  have hn := hy.1.2.2.1
  rw [← tgF_eq]
  exact lpv_foldE (N := w.1) (fun i b => (b, nI i)) (tgG' w s (nI (pcn (wl w.2 0)) - 2)) tgO (fun i b hi => by
      have hx : ∀ v : Int32, (if v < 0 then some (Sum.inr (0, b)) else if b = -1 then some (.inl (v, nI i + 1)) else if v = b then some (.inl (v, nI i + 1)) else some (.inr (0, b)) : Option ((Int32 × Int32) ⊕ (Nat × Int32))) = opE (fun b => (b, nI (i + 1))) (if v < 0 then .inr (0, b) else if b = -1 then .inl v else if v = b then .inl v else .inr (0, b) : Int32 ⊕ (Nat × Int32)) := fun v => by
        rw [nI_1]
        by_cases z1 : v < 0
        · rw [if_pos z1, if_pos z1]
          rfl
        · rw [if_neg z1, if_neg z1]
          by_cases z2 : b = -1
          · rw [if_pos z2, if_pos z2]
            rfl
          · rw [if_neg z2, if_neg z2]
            by_cases z3 : v = b
            · rw [if_pos z3, if_pos z3]
              rfl
            · rw [if_neg z3, if_neg z3]
              rfl
      unfold f_X12_tight_57 tgG' tgV
      dsimp only
      rw [hy.1.1, if_neg (nI_ge hi (by omega)), if_pos (inb_t (by omega) (by omega)), nI_clamp (by omega), hy.2 i hi, ones_12, ob_s, has_12 (by omega), ob_s]
      cases tb s i with
      | false => rw [if_pos b2f]; exact hx (nI (pcn (nearF w.2 i &&& s)) - 0)
      | true => rw [if_neg b2t]; exact hx (nI (pcn (nearF w.2 i &&& s)) - (nI (pcn (wl w.2 0)) - 2))) (fun b => by
      unfold f_X12_tight_57
      dsimp only
      rw [hy.1.1, if_pos (nI_le (Nat.le_refl _) (by omega))]
      rfl) 0 (-1) (Nat.zero_le _)
theorem q_tight (h : RWo st w.1 w.2) (a0 : Int64) : ∃ k, (∀ stt stn, CW stn w → f_X11_tight stt stn a0 = some k) ∧ ∃ v x, f_X12_tight st a0 = some (v, x) ∧ Kt st x ∧ QA 1 k v x := by
  have hl := h.2.2.2.1
  by_cases h1 : a0 &&& (fst64 w.1 ^^^ (-1)) = 0
  · have hc : ∀ stt stn, CW stn w → f_X11_tight stt stn a0 = some (.inr (tgW w a0)) := fun stt stn hw => by
      unfold f_X11_tight
      rw [needPoints_11 stt hw.1, if_pos h1, ob_s]
      dsimp only
      rw [tight_10 hw, ob_s]
    have h0 := h.th 0
    unfold f_X12_tight
    rw [isSet_12 h, if_pos h1, ob_s, if_neg ne10]
    dsimp only [bnd]
    rw [th_v, if_pos (show (0 : Int32) ≤ 0 by decide), show (oI st 2 0).1 1 = nI w.2.length from h.2.1]
    refine ⟨_, hc, ?_⟩
    unfold tgW
    by_cases h2 : w.2.length = 0
    · rw [if_pos h2, if_pos (by rw [h2]; rfl)]
      exact ⟨_, _, rfl, Kt.thr 0, Or.inr ⟨rfl, th_v⟩⟩
    · obtain ⟨y, ey, ky, hy⟩ := layN h0
      rw [if_neg h2, if_neg (nI_ne0 (by omega) (by omega)), ey, ob_s, if_pos (show inb 0 64 = true from rfl), show ((0 : Int32).toNatClampNeg) = 0 from rfl, hy.1.2.2.2.2 0 (by omega), ones_12, ob_s, tight_12 hy, ob_s]
      obtain ⟨f1, f2⟩ : ∃ f, f = tgF w a0 := ⟨_, rfl⟩
      rw [← f2]
      obtain ⟨k1, k2⟩ := f1
      dsimp only
      by_cases z : k1 = 0
      · rw [if_pos z, if_pos z]
        exact ⟨_, _, rfl, Kt.p ky, Or.inr ⟨rfl, ky.v⟩⟩
      · rw [if_neg z, if_neg z]
        exact ⟨_, _, rfl, Kt.p ky, Or.inr ⟨rfl, ky.v⟩⟩
  · refine ⟨.inl 1, fun stt stn hw => ?_, 0, oI st 2 1, ?_, Kt.thr 1, Or.inl ⟨rfl, th_v⟩⟩
    · unfold f_X11_tight
      rw [needPoints_11 stt hw.1, if_neg h1]
      rfl
    · unfold f_X12_tight
      rw [isSet_12 h, if_neg h1, ob_s, if_pos rfl]
      dsimp only [bnd]
      rw [th_v, if_neg (by decide)]
end Q3
/-! spans -/
theorem pcn_mono {x y : Int64} (h : ∀ i, tb x i = true → tb y i = true) : pcn x ≤ pcn y := cnt_mono (fun i _ => h i)
theorem pcn_strict {x y : Int64} (h : ∀ i, tb x i = true → tb y i = true) (hn : x ≠ y) : pcn x < pcn y := by
  have : ∃ k, k < 64 ∧ tb y k = true ∧ tb x k = false := by
    false_or_by_contra
    rename_i h2
    apply hn
    apply tb_ext
    intro i hi
    cases hx : tb x i with
    | true => exact (h i hx).symm
    | false =>
      cases hy : tb y i with
      | false => rfl
      | true => exact absurd ⟨i, hi, hy, hx⟩ h2
  obtain ⟨k, hk, h1, h2⟩ := this
  have h3 := cnt_del (p := tb y) h1 (n := 64) hk
  have h4 : cnt (tb x) 64 ≤ cnt (fun i => tb y i && decide (i ≠ k)) 64 := cnt_mono (fun i _ hx => by
    rw [h i hx, Bool.true_and]
    exact decide_eq_true (fun z => by rw [z, h2] at hx; cases hx))
  unfold pcn
  omega
def spnG (w : Wd) : Nat → Int64 → Int64 ⊕ Int64 := fun i s => .inl (if pcn (wl w.2 i &&& s) < 2 then s else s ||| wl w.2 i)
def pass (w : Wd) (s : Int64) : Int64 := foldE (spnG w) id 0 w.2.length s
def spn (w : Wd) : Nat → Int64 → Int64
  | 0, s => s
  | f + 1, s => if pass w s = s then s else spn w f (pass w s)
theorem foldE_sub {w : Wd} : ∀ (k a : Nat) (s : Int64) (i : Nat), tb s i = true → tb (foldE (spnG w) id a k s) i = true := by
  intro k
  induction k with
  | zero => intro a s i h; exact h
  | succ k ih =>
    intro a s i h
    simp only [foldE, spnG]
    refine ih (a + 1) _ i ?_
    split
    · exact h
    · rw [tb_or, h, Bool.true_or]
theorem pass_sub {w : Wd} {s : Int64} (i : Nat) (h : tb s i = true) : tb (pass w s) i = true := foldE_sub _ _ _ i h
section Q4
variable {st : OS} {w : Wd}
theorem pass_10 {stn : OS} (hw : CW stn w) (b5 : Int32) (b6 s : Int64) : lpv (f_X10_spanOf_18 stn b5 b6) (s, 0) = some (pass w s) := by
  have hl := hw.1.2.2.2.1
  exact lpv_foldE (N := w.2.length) (fun i b => (b, nI i)) (spnG w) id (fun i b hi => by
    unfold f_X10_spanOf_18 spnG
    dsimp only
    rw [hw.1.2.1, if_neg (nI_ge hi (by omega)), setAt_10 hw.1 hi, ob_s, bitCount_13, ob_s]
    simp only [lt2]
    by_cases z : pcn (wl w.2 i &&& b) < 2
    · rw [if_pos z, if_pos z]; simp only [bnd, nI_1]; rfl
    · rw [if_neg z, if_neg z, ob_s]; simp only [bnd, nI_1]; rfl) (fun b => by
    unfold f_X10_spanOf_18
    dsimp only
    rw [hw.1.2.1, if_pos (nI_le (Nat.le_refl _) (by omega))]
    rfl) 0 s (Nat.zero_le _)
theorem span_10 {stn : OS} (hw : CW stn w) (s : Int64) : f_X10_spanOf stn s = some (spn w 65 s) := by
  have key : ∀ (k r : Nat) (s : Int64), r + k = 65 → r ≤ pcn s → ∃ t, lpv (f_X10_spanOf_5 stn) (s, nI r) = some (t, spn w k s) := by
    intro k
    induction k with
    | zero =>
      intro r s h1 h2
      have := pcn_le s
      omega
    | succ k ih =>
      intro r s h1 h2
      have e : f_X10_spanOf_5 stn (s, nI r) = (if pass w s = s then some (.inr (0, pass w s)) else some (.inl (pass w s, nI (r + 1)))) := by
        unfold f_X10_spanOf_5
        dsimp only
        rw [if_neg (show ¬ (64 : Int32) < nI r from nI_nlt (b := r) (a := 64) (by omega) (by decide)), pass_10 hw, ob_s]
        simp only [lg_cmp_eq, bnd, nI_1]
      by_cases z : pass w s = s
      · rw [if_pos z] at e
        refine ⟨0, ?_⟩
        rw [lpv_out e]
        simp only [spn, if_pos z]
        rw [z]
      · rw [if_neg z] at e
        have hlt := pcn_strict (fun i hi => pass_sub i hi) (fun q => z q.symm)
        obtain ⟨t, ht⟩ := ih (r + 1) (pass w s) (by omega) (by omega)
        refine ⟨t, ?_⟩
        rw [lpv_in e, ht]
        simp only [spn, if_neg z]
  obtain ⟨t, ht⟩ := key 65 0 s rfl (Nat.zero_le _)
  unfold f_X10_spanOf
  rw [show ((s, 0) : Int64 × Int32) = (s, nI 0) from rfl, ht, ob_s]
  exact ite_self _
theorem pass_12 (h : RWo st w.1 w.2) (s : Int64) : ∃ b : Int32, lpv (f_X12_spanned_36 st) (s, 0, 0) = some (pass w s, b) ∧ (b = 0 ↔ pass w s = s) := by
  have hl := h.2.2.2.1
  have key := lpv_inv (f := f_X12_spanned_36 st) (fun i z => z.2.2 = nI i ∧ foldE (spnG w) id i (w.2.length - i) z.1 = pass w s ∧ (∀ j, tb s j = true → tb z.1 j = true) ∧ (z.2.1 = 0 ↔ z.1 = s)) w.2.length (fun r => r.1 = pass w s ∧ (r.2 = 0 ↔ pass w s = s)) (fun i z hi hI => Or.inl ?_) (fun z hI => ?_) 0 (s, 0, 0) (Nat.zero_le _) ⟨rfl, rfl, fun _ z => z, ⟨fun _ => rfl, fun _ => rfl⟩⟩
  · obtain ⟨⟨r1, r2⟩, e, h1, h2⟩ := key
    dsimp only at h1 h2
    subst h1
    exact ⟨r2, e, h2⟩
  · obtain ⟨b3, b5, b6⟩ := z
    obtain ⟨e1, e2, e3, e4⟩ := hI
    dsimp only at e1 e2 e3 e4
    subst e1
    obtain ⟨k, hk⟩ : ∃ k, w.2.length - i = k + 1 := ⟨w.2.length - i - 1, by omega⟩
    rw [hk] at e2
    simp only [foldE, spnG] at e2
    have hk2 : w.2.length - (i + 1) = k := by omega
    unfold f_X12_spanned_36
    dsimp only
    rw [h.2.1, if_neg (nI_ge hi (by omega)), if_pos (inb_t (by omega) (by omega)), nI_clamp (by omega), h.2.2.2.2 i hi, ones_12, ob_s]
    simp only [lt2, lg_cmp_eq, bnd, nI_1]
    by_cases z : pcn (wl w.2 i &&& b3) < 2
    · rw [if_pos z] at e2 ⊢
      refine ⟨_, rfl, rfl, ?_, e3, e4⟩
      rw [hk2]; exact e2
    · rw [if_neg z] at e2 ⊢
      by_cases z2 : wl w.2 i &&& (b3 ^^^ (-1)) = 0
      · rw [if_pos z2]
        have hsub : b3 ||| wl w.2 i = b3 := tb_ext (fun j hj => by
          rw [tb_or]
          cases hb : tb b3 j with
          | true => rfl
          | false =>
            have : tb (wl w.2 i &&& (b3 ^^^ (-1))) j = false := by rw [z2, tb_0]
            rw [tb_dif, hb] at this
            simpa using this)
        rw [hsub] at e2
        refine ⟨_, rfl, rfl, ?_, e3, e4⟩
        rw [hk2]; exact e2
      · rw [if_neg z2]
        have hne : b3 ||| wl w.2 i ≠ s := fun q => by
          apply z2
          apply tb_ext
          intro j hj
          rw [tb_dif, tb_0]
          cases hb : tb (wl w.2 i) j with
          | false => rfl
          | true =>
            have : tb (b3 ||| wl w.2 i) j = true := by rw [tb_or, hb, Bool.or_true]
            rw [q] at this
            rw [e3 j this]
            rfl
        refine ⟨_, rfl, rfl, ?_, fun j hj => by show tb (b3 ||| wl w.2 i) j = true; rw [tb_or, e3 j hj, Bool.true_or], ⟨fun q => absurd q ne10, fun q => absurd q hne⟩⟩
        rw [hk2]; exact e2
  · obtain ⟨b3, b5, b6⟩ := z
    obtain ⟨e1, e2, e3, e4⟩ := hI
    dsimp only at e1 e2 e3 e4
    subst e1
    rw [Nat.sub_self] at e2
    have e2 : b3 = pass w s := e2
    subst e2
    unfold f_X12_spanned_36
    dsimp only
    rw [h.2.1, if_pos (nI_le (Nat.le_refl _) (by omega))]
    exact ⟨_, rfl, rfl, e4⟩
theorem span_12 (h : RWo st w.1 w.2) (s : Int64) : lpv (f_X12_spanned_25 st) (s, 1) = some (spn w 65 s) := by
  have key : ∀ (k : Nat) (s : Int64), 65 ≤ pcn s + k → lpv (f_X12_spanned_25 st) (s, 1) = some (spn w k s) := by
    intro k
    induction k with
    | zero =>
      intro s h2
      have := pcn_le s
      omega
    | succ k ih =>
      intro s h2
      obtain ⟨b, e, hb⟩ := pass_12 h s
      have e1 : f_X12_spanned_25 st (s, 1) = some (.inl (pass w s, b)) := by
        unfold f_X12_spanned_25
        dsimp only
        rw [if_neg ne10, e, ob_s]
      rw [lpv_in e1]
      by_cases z : pass w s = s
      · have hb0 := hb.mpr z
        have e2 : f_X12_spanned_25 st (pass w s, b) = some (.inr (pass w s)) := by
          unfold f_X12_spanned_25
          dsimp only
          rw [if_pos hb0]
        rw [lpv_out e2]
        simp only [spn, if_pos z]
        rw [z]
      · have hlt := pcn_strict (fun i hi => pass_sub i hi) (fun q => z q.symm)
        have hb0 : b ≠ 0 := fun q => z (hb.mp q)
        have e2 : f_X12_spanned_25 st (pass w s, b) = f_X12_spanned_25 st (pass w s, 1) := by
          unfold f_X12_spanned_25
          dsimp only
          rw [if_neg hb0, if_neg ne10]
        have e3 : lpv (f_X12_spanned_25 st) (pass w s, b) = lpv (f_X12_spanned_25 st) (pass w s, 1) := by
          obtain ⟨b', e', hb'⟩ := pass_12 h (pass w s)
          have e4 : f_X12_spanned_25 st (pass w s, 1) = some (.inl (pass w (pass w s), b')) := by
            unfold f_X12_spanned_25
            dsimp only
            rw [if_neg ne10, e', ob_s]
          rw [lpv_in e4, lpv_in (e2.trans e4)]
        rw [e3, ih (pass w s) (by omega)]
        simp only [spn, if_neg z]
  exact key 65 s (by omega)
theorem q_spanned (h : RWo st w.1 w.2) (a0 : Int64) : ∃ k, (∀ stt stn, CW stn w → f_X11_spanned stt stn a0 = some k) ∧ ∃ v x, f_X12_spanned st a0 = some (v, x) ∧ Kt st x ∧ QA 1 k v x := by
  have h0 := h.th 0
  by_cases h1 : a0 &&& (fst64 w.1 ^^^ (-1)) = 0
  · refine ⟨.inr (spn w 65 a0), fun stt stn hw => ?_, spn w 65 a0, oI st 2 0, ?_, Kt.thr 0, Or.inr ⟨rfl, th_v⟩⟩
    · unfold f_X11_spanned
      rw [needPoints_11 stt hw.1, if_pos h1, ob_s]
      dsimp only
      rw [span_10 hw, ob_s]
    · unfold f_X12_spanned
      dsimp only [bnd]
      rw [isSet_12 h0, if_pos h1, ob_s, if_neg ne10, span_12 h0, ob_s]
  · refine ⟨.inl 1, fun stt stn hw => ?_, 0, oI (oI st 2 0) 2 1, ?_, Kt.ff, Or.inl ⟨rfl, th_v⟩⟩
    · unfold f_X11_spanned
      rw [needPoints_11 stt hw.1, if_neg h1]
      rfl
    · unfold f_X12_spanned
      dsimp only [bnd]
      rw [isSet_12 h0, if_neg h1, ob_s, if_pos rfl]
      rfl
end Q4
