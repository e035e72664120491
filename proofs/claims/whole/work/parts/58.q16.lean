/-! questions: covers, the class's search -/
/-- tries, found, best, spent -/
abbrev Sg : Type := Nat × Nat × Int64 × Bool
/-- hit, barred, taken -/
abbrev Nd : Type := Int64 × Int64 × Int64
/-- choices of a thing, hits of a choice, barred by a choice, the goal, only one -/
abbrev Cv : Type := (Nat → Int64) × (Nat → Int64) × (Nat → Int64) × Int64 × Bool
def stp (c : Cv) (s : Sg) : Bool := s.2.2.2 || (c.2.2.2.2 && decide (0 < s.2.1))
def unh (h : Int64) : Nat := low (h ^^^ (-1))
def opn (c : Cv) (nd : Nd) : Int64 := c.1 (unh nd.1) &&& (nd.2.1 ^^^ (-1))
def kid (c : Cv) (nd : Nd) (p : Nat) : Nd := (nd.1 ||| c.2.1 p, nd.2.1 ||| c.2.2.1 p, nd.2.2 ||| bit1 p)
def fnd (s : Sg) (t : Int64) : Sg := (s.1 + 1, s.2.1 + 1, (if s.2.1 = 0 then t else s.2.2.1), s.2.2.2)
def tri (s : Sg) : Sg := (s.1 + 1, s.2)
def spnt (s : Sg) : Sg := (s.1, s.2.1, s.2.2.1, true)
def stepP (c : Cv) (rec : Nd → Sg → Sg) (nd : Nd) (p : Nat) (s : Sg) : Sg :=
  if stp c s = true then s else if tb (opn c nd) p = true then (if 100000 ≤ s.1 then spnt s else if (kid c nd p).1 = c.2.2.2.1 then fnd s (kid c nd p).2.2 else rec (kid c nd p) (tri s)) else s
def FP (c : Cv) (rec : Nd → Sg → Sg) (nd : Nd) : Nat → Nat → Sg → Sg
  | 0, _, s => s
  | k + 1, p, s => FP c rec nd k (p + 1) (stepP c rec nd p s)
def Rs (c : Cv) : Nat → Nd → Sg → Sg
  | 0, _, s => s
  | f + 1, nd, s => FP c (Rs c f) nd 64 0 s
theorem fp_stop {c : Cv} {rec : Nd → Sg → Sg} {nd : Nd} {s : Sg} (h : stp c s = true) : ∀ {k p}, FP c rec nd k p s = s := by
  intro k
  induction k with
  | zero => intro p; rfl
  | succ k ih =>
    intro p
    simp only [FP]
    rw [show stepP c rec nd p s = s by unfold stepP; rw [if_pos h]]
    exact ih
section CVC
/-- the class's arrays -/
def CA (c : Cv) (y : OS) : Prop := (∀ i, i < 64 → y.2.2.2 0 i = c.1 i ∧ y.2.2.2 1 i = c.2.1 i ∧ y.2.2.2 2 i = c.2.2.1 i) ∧ y.2.1 3 = c.2.2.2.1
def CS (y : OS) (s : Sg) : Prop := y.1 8 = nI s.2.1 ∧ y.2.1 9 = s.2.2.1 ∧ s.2.1 ≤ s.1
def lvl (y : OS) (d : Nat) (nd : Nd) : Prop := y.2.2.2 5 d = nd.1 ∧ y.2.2.2 6 d = nd.2.1 ∧ y.2.2.2 7 d = nd.2.2
/-- below a depth all is as it was -/
def belo (y z : OS) (d : Nat) : Prop := ∀ i, i < d → z.2.2.2 4 i = y.2.2.2 4 i ∧ z.2.2.2 5 i = y.2.2.2 5 i ∧ z.2.2.2 6 i = y.2.2.2 6 i ∧ z.2.2.2 7 i = y.2.2.2 7 i
theorem belo.tr {x y z : OS} {d : Nat} (h : belo x y d) (k : belo y z d) : belo x z d := fun i hi => ⟨(k i hi).1.trans (h i hi).1, (k i hi).2.1.trans (h i hi).2.1, (k i hi).2.2.1.trans (h i hi).2.2.1, (k i hi).2.2.2.trans (h i hi).2.2.2⟩
theorem belo.le {x y : OS} {d e : Nat} (h : belo x y e) (hd : d ≤ e) : belo x y d := fun i hi => h i (by omega)
/-- good covers: a choice that a thing has hits that thing; nothing beyond the goal is hit -/
def GC (c : Cv) : Prop := (∀ t p, t < 64 → tb (c.1 t) p = true → tb (c.2.1 p) t = true) ∧ ∀ p t, tb (c.2.1 p) t = true → tb c.2.2.2.1 t = true
def ndok (c : Cv) (nd : Nd) (d : Nat) : Prop := (∀ t, tb nd.1 t = true → tb c.2.2.2.1 t = true) ∧ nd.1 ≠ c.2.2.2.1 ∧ d ≤ pcn nd.1
theorem ndok.fr {c : Cv} {nd : Nd} {d : Nat} (h : ndok c nd d) : nd.1 ^^^ (-1) ≠ 0 ∧ unh nd.1 < 64 ∧ tb nd.1 (unh nd.1) = false := by
  have h1 : nd.1 ^^^ (-1) ≠ 0 := fun z => by
    refine h.2.1 (tb_ext (fun i hi => ?_))
    have : tb (nd.1 ^^^ (-1)) i = false := by rw [z, tb_0]
    rw [tb_not hi] at this
    have e : tb nd.1 i = true := by
      cases hb : tb nd.1 i with
      | true => rfl
      | false => rw [hb] at this; cases this
    rw [e, h.1 i e]
  obtain ⟨l1, l2, _⟩ := low_tb h1
  refine ⟨h1, l2, ?_⟩
  rw [tb_not l2] at l1
  unfold unh
  cases hb : tb nd.1 (low (nd.1 ^^^ (-1))) with
  | false => rfl
  | true => rw [hb] at l1; cases l1
theorem ndok.lt {c : Cv} {nd : Nd} {d : Nat} (h : ndok c nd d) : d < 64 := by
  obtain ⟨_, h2, h3⟩ := h.fr
  have : pcn nd.1 < pcn (-1 : Int64) := pcn_strict (fun i hi => tb_m1 i (tb_lt hi)) (fun z => by
    have h9 := tb_m1 (unh nd.1) h2
    rw [← z, h3] at h9
    cases h9)
  have := pcn_le (-1 : Int64)
  have := h.2.2
  omega
theorem ndok.nx {c : Cv} {nd : Nd} {d p : Nat} (hG : GC c) (h : ndok c nd d) (hp : tb (opn c nd) p = true) (hne : (kid c nd p).1 ≠ c.2.2.2.1) : ndok c (kid c nd p) (d + 1) := by
  obtain ⟨_, h2, h3⟩ := h.fr
  unfold opn at hp
  rw [tb_dif, Bool.and_eq_true] at hp
  have h4 := hG.1 _ p h2 hp.1
  refine ⟨fun t ht => ?_, hne, ?_⟩
  · unfold kid at ht
    dsimp only at ht
    rw [tb_or, Bool.or_eq_true] at ht
    exact ht.elim (h.1 t) (hG.2 p t)
  · have : pcn nd.1 < pcn (kid c nd p).1 := pcn_strict (fun i hi => by unfold kid; dsimp only; rw [tb_or, hi]; rfl) (fun z => by
      have h5 : tb (kid c nd p).1 (unh nd.1) = true := by unfold kid; dsimp only; rw [tb_or, h4, Bool.or_true]
      rw [← z, h3] at h5
      cases h5)
    have := h.2.2
    omega
/-- what stays in an array of a level -/
def rst (x : Int64) (p : Nat) (z : Int64) : Prop := ∀ i, tb z i = true ↔ (p ≤ i ∧ tb x i = true)
theorem rst_no {x z : Int64} {p : Nat} (h : rst x p z) (hp : tb x p = false) : rst x (p + 1) z := fun i => by
  rw [h i]
  constructor
  · rintro ⟨h1, h2⟩
    refine ⟨?_, h2⟩
    rcases Nat.lt_or_ge p i with q | q
    · exact q
    · rw [show i = p by omega, hp] at h2; cases h2
  · rintro ⟨h1, h2⟩
    exact ⟨by omega, h2⟩
theorem rst_low {x z : Int64} {p : Nat} (h : rst x p z) (hp : tb x p = true) : z ≠ 0 ∧ low z = p ∧ rst x (p + 1) (z &&& (z - 1)) := by
  have h1 : tb z p = true := (h p).mpr ⟨Nat.le_refl _, hp⟩
  have h0 : z ≠ 0 := fun q => by rw [q, tb_0] at h1; cases h1
  have h2 : low z = p := low_eq h1 (fun j hj => eq_false_of_ne_true (fun q => by have := ((h j).mp q).1; omega))
  refine ⟨h0, h2, fun i => ?_⟩
  rw [tb_clr h0, Bool.and_eq_true, h i, h2]
  constructor
  · rintro ⟨⟨a, b⟩, c⟩
    have := of_decide_eq_true c
    exact ⟨by omega, b⟩
  · rintro ⟨a, b⟩
    exact ⟨⟨by omega, b⟩, decide_eq_true (by omega)⟩
theorem rst_end {x z : Int64} {p : Nat} (h : rst x p z) (hp : 64 ≤ p) : z = 0 := tb_ext (fun i hi => by
  rw [tb_0]; exact eq_false_of_ne_true (fun q => by have := ((h i).mp q).1; omega))
theorem begin_0 {c : Cv} {y : OS} (hy : CA c y) {d : Nat} (hd : d ≤ 64) {nd : Nd} (hx : nd.1 ^^^ (-1) ≠ 0) : ∃ z, f_X0_begin y (nI d) nd.1 nd.2.1 nd.2.2 = some z ∧ CA c z ∧ lvl z d nd ∧ z.2.2.2 4 d = opn c nd ∧ belo y z d ∧ z.1 = y.1 ∧ z.2.1 = y.2.1 := by
  have hl := (low_tb hx).2.1
  refine ⟨oB (oB (oB (oB y 5 (vp_updL (y.2.2.2 5) d nd.1)) 6 (vp_updL (y.2.2.2 6) d nd.2.1)) 7 (vp_updL (y.2.2.2 7) d nd.2.2)) 4 (vp_updL (y.2.2.2 4) d (opn c nd)), ?_, ⟨fun i hi => ?_, hy.2⟩, ⟨?_, ?_, ?_⟩, ?_, fun i hi => ⟨?_, ?_, ?_, ?_⟩, rfl, rfl⟩
  · unfold f_X0_begin
    rw [lowest_10, ob_s, if_neg hx, if_neg (nI_pos (by omega)), if_neg (show ¬ (64 : Int32) < nI d from nI_nlt (b := d) (a := 64) hd (by decide)), if_neg (nI_pos (by omega)), if_pos (show nI (low _) < (64 : Int32) from nI_lt (b := 64) hl (by decide)), if_pos (inb_t (by omega) (by omega)), nI_clamp (by omega), nI_clamp (by omega)]
    dsimp only [bnd]
    rw [if_pos (inb_t hl (by omega)), oB_ne _ (by decide), oB_ne _ (by decide), oB_ne _ (by decide), oB_ne _ (by decide), oB_ne _ (by decide), oB_ne _ (by decide), oB_ne _ (by decide), oB_ne _ (by decide), oB_ne _ (by decide), (hy.1 _ hl).1]
    rfl
  · rw [oB_ne _ (by decide), oB_ne _ (by decide), oB_ne _ (by decide), oB_ne _ (by decide), oB_ne _ (by decide), oB_ne _ (by decide), oB_ne _ (by decide), oB_ne _ (by decide), oB_ne _ (by decide), oB_ne _ (by decide), oB_ne _ (by decide), oB_ne _ (by decide)]
    exact hy.1 i hi
  · rw [oB_ne _ (by decide), oB_ne _ (by decide), oB_ne _ (by decide), oB_self]; exact if_pos rfl
  · rw [oB_ne _ (by decide), oB_ne _ (by decide), oB_self]; exact if_pos rfl
  · rw [oB_ne _ (by decide), oB_self]; exact if_pos rfl
  · rw [oB_self]; exact if_pos rfl
  · rw [oB_self]; exact if_neg (by omega)
  · rw [oB_ne _ (by decide), oB_ne _ (by decide), oB_ne _ (by decide), oB_self]; exact if_neg (by omega)
  · rw [oB_ne _ (by decide), oB_ne _ (by decide), oB_self]; exact if_neg (by omega)
  · rw [oB_ne _ (by decide), oB_self]; exact if_neg (by omega)
/-- how the search ends -/
def ENDS (c : Cv) (one : Int32) (y : OS) (d : Nat) (s : Sg) (tn : Nat) (s' : Sg) : Prop := ∃ j z, lpv (f_X0_seek_45 one) (y, nI d, nI s.1, nI tn) = some (j, z) ∧ CS z s' ∧ z.1 10 = y.1 10 ∧ (s'.2.2.2 = true → j = 0) ∧ (s'.2.2.2 = false → j = 1)
/-- .. or goes on -/
def GOES (c : Cv) (one : Int32) (y : OS) (d : Nat) (nd : Nd) (s : Sg) (tn : Nat) (s' : Sg) : Prop := ∃ z tn', lpv (f_X0_seek_45 one) (y, nI d, nI s.1, nI tn) = lpv (f_X0_seek_45 one) (z, nI d, nI s'.1, nI tn') ∧ CA c z ∧ CS z s' ∧ z.1 10 = y.1 10 ∧ lvl z d nd ∧ z.2.2.2 4 d = 0 ∧ belo y z d ∧ s.1 ≤ s'.1 ∧ s'.1 ≤ 100000 ∧ tn' + 2 * s.1 ≤ tn + 2 * s'.1
theorem sim_0 {c : Cv} {one : Int32} (h1 : (one = 0) ↔ c.2.2.2.2 = false) (hG : GC c) : ∀ (f : Nat), (∀ k p, p + k = 64 → ∀ (y : OS) (d : Nat) (nd : Nd) (s : Sg) (tn : Nat), CA c y → CS y s → lvl y d nd → ndok c nd d → 64 ≤ f + pcn nd.1 → rst (opn c nd) p (y.2.2.2 4 d) → stp c s = false → s.1 ≤ 100000 → tn ≤ 2 * s.1 → (stp c (FP c (Rs c (f - 1)) nd k p s) = true → ENDS c one y d s tn (FP c (Rs c (f - 1)) nd k p s)) ∧ (stp c (FP c (Rs c (f - 1)) nd k p s) = false → GOES c one y d nd s tn (FP c (Rs c (f - 1)) nd k p s))) := by
  intro f
  induction f with
  | zero =>
    intro k p _ y d nd s tn _ _ _ hN hf
    obtain ⟨_, h2, h3⟩ := hN.fr
    exfalso
    have : pcn nd.1 < pcn (-1 : Int64) := pcn_strict (fun i hi => tb_m1 i (tb_lt hi)) (fun z => by
      have h9 := tb_m1 (unh nd.1) h2
      rw [← z, h3] at h9
      cases h9)
    have := pcn_le (-1 : Int64)
    omega
  | succ f ihf =>
    intro k
    induction k with
    | zero =>
      intro p hp y d nd s tn hA hS hL hN hf hr hs ht htn
      have h0 := rst_end hr (by omega)
      simp only [FP]
      exact ⟨fun z => absurd z (by rw [hs]; decide), fun _ => ⟨y, tn, rfl, hA, hS, rfl, hL, h0, fun i _ => ⟨rfl, rfl, rfl, rfl⟩, Nat.le_refl _, ht, Nat.le_refl _⟩⟩
    | succ k ihk =>
      intro p hp y d nd s tn hA hS hL hN hf hr hs ht htn
      simp only [FP]
      have hd := hN.lt
      rw [show f + 1 - 1 = f from rfl] at *
      cases hb : tb (opn c nd) p with
      | false =>
        rw [show stepP c (Rs c f) nd p s = s by unfold stepP; rw [hs, if_neg (by decide), hb, if_neg (by decide)]]
        exact ihk (p + 1) (by omega) y d nd s tn hA hS hL hN hf (rst_no hr hb) hs ht htn
      | true =>
        obtain ⟨r1, r2, r3⟩ := rst_low hr hb
        have hstep : f_X0_seek_45 one (y, nI d, nI s.1, nI tn) = if s.1 < 100000 then (f_X0_goesDeeper (oB y 4 (vp_updL (y.2.2.2 4) d (y.2.2.2 4 d &&& (y.2.2.2 4 d - 1)))) (nI d) (nI p)).bind (fun x26 => match x26 with | (v28, t29) => (if v28 = 0 then (if one = 0 then some (.inl ((t29, nI d, nI (s.1 + 1), nI (tn + 1)))) else some (.inr ((1, t29)))) else some (.inl ((t29, nI (d + 1), nI (s.1 + 1), nI (tn + 1)))))) else some (.inr (0, y)) := by
          unfold f_X0_seek_45
          dsimp only
          rw [if_neg (show ¬ (200002 : Int32) < nI tn from nI_nlt (b := tn) (a := 200002) (by omega) (by decide)), if_neg (nI_pos (by omega)), if_neg (show ¬ (64 : Int32) < nI d from nI_nlt (b := d) (a := 64) (by omega) (by decide)), if_pos (inb_t (by omega) (by omega)), nI_clamp (by omega)]
          dsimp only [bnd]
          simp only [lg_cmp_eq]
          rw [if_neg r1, ntz_13 r1, r2]
          by_cases q : s.1 < 100000
          · rw [if_pos q, if_pos (show nI s.1 < (100000 : Int32) from nI_lt (b := 100000) q (by decide)), ob_s, nI_1, nI_1, nI_1]
          · rw [if_neg q, if_neg (show ¬ nI s.1 < (100000 : Int32) from nI_nlt (b := 100000) (by omega) (by omega))]
        by_cases q : s.1 < 100000
        · rw [if_pos q] at hstep
          generalize hY : oB y 4 (vp_updL (y.2.2.2 4) d (y.2.2.2 4 d &&& (y.2.2.2 4 d - 1))) = Y at hstep
          have Y4 : ∀ i, Y.2.2.2 4 i = if i = d then y.2.2.2 4 d &&& (y.2.2.2 4 d - 1) else y.2.2.2 4 i := fun i => by rw [← hY, oB_self]; rfl
          have Yn : ∀ j, j ≠ 4 → Y.2.2.2 j = y.2.2.2 j := fun j hj => by rw [← hY, oB_ne _ hj]
          have Y1 : Y.1 = y.1 := by rw [← hY]; rfl
          have Y2 : Y.2.1 = y.2.1 := by rw [← hY]; rfl
          have YA : CA c Y := ⟨fun i hi => by rw [Yn 0 (by decide), Yn 1 (by decide), Yn 2 (by decide)]; exact hA.1 i hi, by rw [Y2]; exact hA.2⟩
          have Yb : belo y Y d := fun i hi => ⟨by rw [Y4, if_neg (by omega)], by rw [Yn 5 (by decide)], by rw [Yn 6 (by decide)], by rw [Yn 7 (by decide)]⟩
          have hp64 := tb_lt hb
          have hgd : f_X0_goesDeeper Y (nI d) (nI p) = if (kid c nd p).1 = c.2.2.2.1 then some (0, oI (oJ Y 9 (if s.2.1 = 0 then (kid c nd p).2.2 else s.2.2.1)) 8 (nI (s.2.1 + 1))) else (f_X0_begin Y (nI (d + 1)) (kid c nd p).1 (kid c nd p).2.1 (kid c nd p).2.2).bind (fun x12 => some ((1, x12))) := by
            unfold f_X0_goesDeeper
            rw [if_neg (nI_pos (by omega)), if_neg (show ¬ (64 : Int32) ≤ nI d from nI_ge (b := 64) hd (by decide)), if_neg (nI_pos (by omega)), if_pos (show nI p < (64 : Int32) from nI_lt (b := 64) hp64 (by decide)), if_pos (inb_t (by omega) (by omega)), if_pos (inb_t (by omega) (by omega)), nI_clamp (by omega), nI_clamp (by omega), Yn 5 (by decide), Yn 6 (by decide), Yn 7 (by decide), hL.1, hL.2.1, hL.2.2, (YA.1 p hp64).2.1, (YA.1 p hp64).2.2, YA.2, sh1 hp64]
            dsimp only [bnd]
            simp only [lg_cmp_eq]
            rw [nI_1]
            show (if (kid c nd p).1 = c.2.2.2.1 then _ else _) = _
            by_cases g : (kid c nd p).1 = c.2.2.2.1
            · rw [if_pos g, if_pos g, Y1, hS.1]
              by_cases g2 : s.2.1 = 0
              · rw [if_pos ((nI0 (by have := hS.2.2; omega)).mpr g2), if_pos g2]
                show some ((0 : Int32), oI (oJ Y 9 (kid c nd p).2.2) 8 (Y.1 8 + 1)) = _
                rw [Y1, hS.1, nI_1]
              · rw [if_neg (nI_ne0 (by omega) (by have := hS.2.2; omega)), if_neg g2]
                show some ((0 : Int32), oI (oJ Y 9 (Y.2.1 9)) 8 (Y.1 8 + 1)) = _
                rw [Y1, Y2, hS.1, hS.2.1, nI_1]
            · rw [if_neg g, if_neg g]
              rfl
          rw [hgd] at hstep
          by_cases g : (kid c nd p).1 = c.2.2.2.1
          · rw [if_pos g, ob_s] at hstep
            dsimp only at hstep
            rw [if_pos rfl] at hstep
            have hsp : stepP c (Rs c f) nd p s = fnd s (kid c nd p).2.2 := by unfold stepP; rw [hs, if_neg (by decide), if_pos hb, if_neg (by omega), if_pos g]
            rw [hsp]
            generalize hz : oI (oJ Y 9 (if s.2.1 = 0 then (kid c nd p).2.2 else s.2.2.1)) 8 (nI (s.2.1 + 1)) = z at hstep
            have z8 : z.1 8 = nI (s.2.1 + 1) := by rw [← hz, oI_self]
            have z9 : z.2.1 9 = if s.2.1 = 0 then (kid c nd p).2.2 else s.2.2.1 := by rw [← hz, oI_2]; simp [oJ, va_up]
            have zA : CA c z := by rw [← hz]; exact ⟨YA.1, by rw [oI_2]; exact Eq.trans (by simp [oJ, va_up]) YA.2⟩
            have zB : z.2.2.2 = Y.2.2.2 := by rw [← hz]; rfl
            have z10 : z.1 10 = y.1 10 := by rw [← hz, oI_ne _ (by decide), ← Y1]; rfl
            have zS : CS z (fnd s (kid c nd p).2.2) := ⟨z8, z9, by unfold fnd; dsimp only; have := hS.2.2; omega⟩
            by_cases ho : one = 0
            · rw [if_pos ho] at hstep
              have hs2 : stp c (fnd s (kid c nd p).2.2) = false := by
                unfold stp fnd
                rw [h1.mp ho]
                unfold stp at hs
                rw [h1.mp ho] at hs
                simpa using hs
              have zb : belo y z d := fun i hi => by rw [zB]; exact Yb i hi
              have := ihk (p + 1) (by omega) z d nd (fnd s (kid c nd p).2.2) (tn + 1) zA zS (by unfold lvl; rw [zB, Yn 5 (by decide), Yn 6 (by decide), Yn 7 (by decide)]; exact hL) hN hf (by rw [zB, Y4, if_pos rfl]; exact r3) hs2 (by unfold fnd; dsimp only; omega) (by unfold fnd; dsimp only; omega)
              refine ⟨fun e => ?_, fun e => ?_⟩
              · obtain ⟨j, z', a1, a2, a3, a4⟩ := this.1 e
                exact ⟨j, z', by rw [lpv_in hstep]; exact a1, a2, a3.trans z10, a4⟩
              · obtain ⟨z', tn', a1, a2, a3, a4, a5, a6, a7, a8, a9, a10⟩ := this.2 e
                unfold fnd at a8 a10
                dsimp only at a8 a10
                exact ⟨z', tn', by rw [lpv_in hstep]; exact a1, a2, a3, a4.trans z10, a5, a6, zb.tr a7, by unfold fnd at *; omega, a9, by unfold fnd at *; omega⟩
            · rw [if_neg ho] at hstep
              have hc : c.2.2.2.2 = true := by
                cases hcc : c.2.2.2.2 with
                | true => rfl
                | false => exact absurd (h1.mpr hcc) ho
              have hs2 : stp c (fnd s (kid c nd p).2.2) = true := by
                unfold stp fnd
                rw [hc]
                simp
              have hs3 : s.2.2.2 = false := by
                unfold stp at hs
                rw [Bool.or_eq_false_iff] at hs
                exact hs.1
              rw [fp_stop hs2]
              refine ⟨fun _ => ⟨1, z, lpv_out hstep, zS, z10, fun e => ?_, fun _ => rfl⟩, fun e => by rw [hs2] at e; cases e⟩
              unfold fnd at e
              dsimp only at e
              rw [hs3] at e
              cases e
          · rw [if_neg g] at hstep
            have hK := hN.nx hG hb g
            obtain ⟨z, b1, b2, b3, b4, b5, b6, b7⟩ := begin_0 YA (show d + 1 ≤ 64 by omega) hK.fr.1
            rw [b1, ob_s, ob_s] at hstep
            dsimp only at hstep
            rw [if_neg (by decide)] at hstep
            have hsp : stepP c (Rs c f) nd p s = Rs c f (kid c nd p) (tri s) := by unfold stepP; rw [hs, if_neg (by decide), if_pos hb, if_neg (by omega), if_neg g]
            rw [hsp]
            have hpc : pcn nd.1 + 1 ≤ pcn (kid c nd p).1 := by
              have h5 := (ndok.nx (d := pcn nd.1) hG ⟨hN.1, hN.2.1, Nat.le_refl _⟩ hb g).2.2
              exact h5
            have hf0 : f ≠ 0 := fun e => by
              have hk := hK.fr
              have : pcn (kid c nd p).1 < pcn (-1 : Int64) := pcn_strict (fun i hi => tb_m1 i (tb_lt hi)) (fun z => by
                have h9 := tb_m1 (unh (kid c nd p).1) hk.2.1
                rw [← z, hk.2.2] at h9
                cases h9)
              have := pcn_le (-1 : Int64)
              omega
            have hR : Rs c f (kid c nd p) (tri s) = FP c (Rs c (f - 1)) (kid c nd p) 64 0 (tri s) := by
              rw [show f = f - 1 + 1 by omega]
              rfl
            have hs2 : stp c (tri s) = false := hs
            have zS : CS z (tri s) := ⟨by rw [b6, Y1]; exact hS.1, by rw [b7, Y2]; exact hS.2.1, by unfold tri; dsimp only; have := hS.2.2; omega⟩
            have := ihf 64 0 rfl z (d + 1) (kid c nd p) (tri s) (tn + 1) b2 zS b3 hK (by omega) (by rw [b4]; exact fun i => ⟨fun e => ⟨Nat.zero_le _, e⟩, fun e => e.2⟩) hs2 (by unfold tri; dsimp only; omega) (by unfold tri; dsimp only; omega)
            rw [← hR] at this
            have z10 : z.1 10 = y.1 10 := by rw [b6, Y1]
            cases hst : stp c (Rs c f (kid c nd p) (tri s)) with
            | true =>
              rw [fp_stop hst]
              refine ⟨fun _ => ?_, fun e => by rw [hst] at e; cases e⟩
              obtain ⟨j, z', a1, a2, a3, a4⟩ := this.1 hst
              exact ⟨j, z', by rw [lpv_in hstep]; exact a1, a2, a3.trans z10, a4⟩
            | false =>
              obtain ⟨v, tn', a1, a2, a3, a4, a5, a6, a7, a8, a9, a10⟩ := this.2 hst
              have e1 : (tri s).1 = s.1 + 1 := rfl
              rw [e1] at a8 a10
              generalize Rs c f (kid c nd p) (tri s) = S' at *
              have hpop : f_X0_seek_45 one (v, nI (d + 1), nI S'.1, nI tn') = some (.inl (v, nI d, nI S'.1, nI (tn' + 1))) := by
                unfold f_X0_seek_45
                dsimp only
                rw [if_neg (show ¬ (200002 : Int32) < nI tn' from nI_nlt (b := tn') (a := 200002) (by omega) (by decide)), if_neg (nI_pos (by omega)), if_neg (show ¬ (64 : Int32) < nI (d + 1) from nI_nlt (b := d + 1) (a := 64) (by omega) (by decide)), if_pos (inb_t (by omega) (by omega)), nI_clamp (by omega), a6]
                dsimp only [bnd]
                rw [if_pos ((lg_cmp_eq 0 0).mpr rfl), show nI (d + 1) + (-1) = nI d by
                  rw [← Int32.sub_eq_add_neg]
                  exact pk_sub (a := d + 1) (b := 1) (by omega), nI_1]
              have vb : belo y v d := by
                refine (Yb.tr (b5.le (by omega))).tr (a7.le (by omega))
              have vd := a7 d (by omega)
              have zd := b5 d (by omega)
              have key := ihk (p + 1) (by omega) v d nd S' (tn' + 1) a2 a3 ⟨by rw [vd.2.1, zd.2.1, Yn 5 (by decide)]; exact hL.1, by rw [vd.2.2.1, zd.2.2.1, Yn 6 (by decide)]; exact hL.2.1, by rw [vd.2.2.2, zd.2.2.2, Yn 7 (by decide)]; exact hL.2.2⟩ hN hf (by rw [vd.1, zd.1, Y4, if_pos rfl]; exact r3) hst a9 (by omega)
              have hfull : lpv (f_X0_seek_45 one) (y, nI d, nI s.1, nI tn) = lpv (f_X0_seek_45 one) (v, nI d, nI S'.1, nI (tn' + 1)) := by
                rw [lpv_in hstep]
                refine Eq.trans a1 ?_
                rw [lpv_in hpop]
              refine ⟨fun e => ?_, fun e => ?_⟩
              · obtain ⟨j, z', c1, c2, c3, c4⟩ := key.1 e
                exact ⟨j, z', by rw [hfull]; exact c1, c2, c3.trans (a4.trans z10), c4⟩
              · obtain ⟨z', tn2, c1, c2, c3, c4, c5, c6, c7, c8, c9, c10⟩ := key.2 e
                exact ⟨z', tn2, by rw [hfull]; exact c1, c2, c3, c4.trans (a4.trans z10), c5, c6, vb.tr c7, by omega, c9, by omega⟩
        · rw [if_neg q] at hstep
          have hsp : stepP c (Rs c f) nd p s = spnt s := by unfold stepP; rw [hs, if_neg (by decide), if_pos hb, if_pos (by omega)]
          have hs2 : stp c (spnt s) = true := by unfold stp spnt; rfl
          rw [hsp, fp_stop hs2]
          exact ⟨fun _ => ⟨0, y, lpv_out hstep, hS, rfl, fun _ => rfl, fun e => by unfold spnt at e; cases e⟩, fun e => by rw [hs2] at e; cases e⟩
end CVC
