/-! the text: the class reads the whole -/
theorem tp_byte (x : Int32) : x &&& 255 = nI ((x &&& 255).toNatClampNeg) ∧ (x &&& 255).toNatClampNeg < 256 := by
  obtain ⟨n, h1, rfl⟩ := wb_of32 x
  have h2 : n &&& 255 ≤ 255 := Nat.and_le_right
  rw [show (255 : Int32) = nI 255 from rfl, fa_and, nI_clamp (by omega)]
  exact ⟨rfl, by omega⟩
def tpN (tp : Nat → Int32) (i : Nat) : Nat := (tp i).toNatClampNeg
def rdC : RD → Int32
  | .inl _ => 1
  | .inr _ => 0
def RDO (tp : Nat → Int32) (t o : OS) : RD → Prop
  | .inl (_, p, l) => RDR t tp 0 0 (-1) ∧ CW o (p, l)
  | .inr (k, q) => RDR t tp 0 (nI k) (nI q) ∧ 1 ≤ k ∧ k < 5 ∧ t.1 8 = nI k
theorem read_5 {y stm d : OS} {tp : Nat → Int32} {hd : Nat} {wr wa : Int32} (hm : MT3 stm) (h : RDR y tp hd wr wa) {n : Nat} (hn : n ≤ hd) : ∃ t o, f_X5_read y stm d (nI n) = some (rdC (readP (tpN tp) n), t, o) ∧ RDO tp t o (readP (tpN tp) n) := by
  obtain ⟨h2, hh, -, -, h5⟩ := h
  have hmin : f_J9_min_7cf53 (nI n) 700 = some (nI n) := by
    unfold f_J9_min_7cf53
    rw [if_neg (show ¬ (700 : Int32) < nI n from nI_nlt (a := 700) (by omega) (by decide))]
  obtain ⟨t0, ht0⟩ : ∃ t0, t0 = oI (oI (oI (oI y 3 (nI n)) 7 0) 8 0) 9 (-1) := ⟨_, rfl⟩
  have hR : RB5 t0 (tpN tp) n := by
    rw [ht0]
    refine ⟨rfl, by omega, fun i hi => ?_⟩
    have e := h5 i (by omega)
    obtain ⟨b1, b2⟩ := tp_byte (y.2.2.1 1 i)
    rw [e] at b1 b2
    exact ⟨b2, e.trans b1⟩
  have h7 : t0.1 7 = nI 0 := by rw [ht0]; rfl
  have h8 : t0.1 8 = 0 := by rw [ht0]; rfl
  have h9 : t0.1 9 = -1 := by rw [ht0]; rfl
  obtain ⟨o0, c1, c2⟩ := clear_10 d (n := 0) (by decide)
  have c1 : f_X10_clear d 0 = some o0 := c1
  obtain ⟨x0, s1, s2, s3⟩ := step_5 stm hR h7 (Nat.zero_le _)
  have x8 : x0.1 8 = 0 := (s2.2 8 (by decide) (by decide) (by decide) (by decide)).trans h8
  have x9 : x0.1 9 = -1 := (s2.2 9 (by decide) (by decide) (by decide) (by decide)).trans h9
  have hl := kd_lt (tpN tp) n 0
  have tail : ∀ {t o : OS} {r : RD}, KK5 t0 t → MC (tpN tp) n t o r → ∃ x o', (lpv (f_X5_read_49 stm) ((t, o, 0))).bind (fun x42 => match x42 with | (t44, t45) => (f_X10_settle t45).bind (fun x46 => bnd (oI t44 2 0) (fun t49 => (if (t49.1 8) = 0 then some (((1 : Int32), t49, x46)) else some ((0, t49, x46)))))) = some (rdC (linesP (tpN tp) n 700 r), x, o') ∧ RDO tp x o' (linesP (tpN tp) n 700 r) := by
    intro t o r hk hM
    obtain ⟨t', o', e1, k1, m1⟩ := lines_5 (mk := stm) (hR.kk hk) hM
    rw [e1, ob_s]
    dsimp only
    cases hr : linesP (tpN tp) n 700 r with
    | inl z =>
      obtain ⟨a, p, l⟩ := z
      rw [hr] at m1
      obtain ⟨-, -, m3, m4, m5⟩ := m1
      obtain ⟨w, w1, w2⟩ := settle_10 m5
      rw [w1, ob_s]
      dsimp only [bnd]
      rw [oI_ne _ (by decide), if_pos m3]
      exact ⟨oI t' 2 0, w, rfl, ⟨rfl, by decide, by rw [oI_ne _ (by decide)]; exact m3, by rw [oI_ne _ (by decide)]; exact m4, fun i hi => absurd hi (Nat.not_lt_zero _)⟩, w2⟩
    | inr z =>
      obtain ⟨k, q⟩ := z
      rw [hr] at m1
      obtain ⟨m1, m2, m3, m4, p, l, m5⟩ := m1
      obtain ⟨w, w1, w2⟩ := settle_10 m5
      rw [w1, ob_s]
      dsimp only [bnd]
      rw [oI_ne _ (by decide), if_neg (by rw [m1]; exact nI_ne_0 m3 m4)]
      exact ⟨oI t' 2 0, w, rfl, ⟨rfl, by decide, by rw [oI_ne _ (by decide)]; exact m1, by rw [oI_ne _ (by decide)]; exact m2, fun i hi => absurd hi (Nat.not_lt_zero _)⟩, m3, m4, by rw [oI_ne _ (by decide)]; exact m1⟩
  unfold f_X5_read readP
  rw [hmin, ob_s]
  dsimp only [bnd]
  rw [← ht0, c1, ob_s, s1, ob_s, s3.2.2.1]
  by_cases c0 : kdT (tpN tp) n 0 = 0
  · rw [if_pos (show nI (kdT (tpN tp) n 0) = (0 : Int32) from congrArg nI c0), if_pos c0]
    have := tail (r := .inl (0, 0, [])) s2.kk ⟨s3, Nat.zero_le _, x8, x9, c2⟩
    rw [show (700 : Nat) = 699 + 1 from rfl, linesP_l, if_pos c0] at this
    exact this
  · obtain ⟨y1, o1, f1, f2, f3⟩ := first_5 (mk := stm) (o := o0) (hR.k s2) hm ⟨_, _, c2⟩ s3 (Nat.zero_le _) x8 x9
    rw [if_neg (show ¬ nI (kdT (tpN tp) n 0) = (0 : Int32) from nI_neq (b := 0) (by omega) (by decide) c0), if_neg c0, f1, ob_s]
    exact tail (s2.kk.tr f2) f3
