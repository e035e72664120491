/-! the text: the reference reads the lines -/
section RDJ
variable {x : OS} {T : Nat → Nat} {n : Nat}
theorem lineTail {b p : Nat} {l : List Int64} (hR : RB12 x T n) (hp : 1 ≤ p) (hp64 : p ≤ 64) (hl : l.length < 64) (hM : MR T n x (.inl (b, p, l))) : ∃ y r, ((lpv f_X12_readLine_44 (x, 0, 0)).bind (fun x125 => match x125 with | (t127, v128) => (if (t127.1 11) = 0 then (f_X12_puts t127 v128).bind (fun x130 => some x130) else some t127))) = some y ∧ KW12 x y ∧ MR T n y r ∧ pntP T n p l 66 b 0 = stopOf T n r := by
  obtain ⟨y, s', e1, k1, e2⟩ := points_12 hp hp64 66 b 0 x 0 (by decide) pcn_zero (fun i hi => by rw [tb_0] at hi; cases hi) hR hM
  have e1 : lpv f_X12_readLine_44 (x, 0, 0) = some (y, s') := e1
  rw [e1, ob_s]
  dsimp only
  rcases e2 with ⟨b', m1, -, m3⟩ | ⟨e, m1, m3⟩
  · obtain ⟨hT, hb, h11, hW⟩ := id m1
    obtain ⟨z, z1, z2⟩ := puts_12 (st := y) ⟨hW, KM12.rf, rfl⟩ s' hl
    rw [if_pos h11, z1, ob_s]
    exact ⟨z, .inl (b', p, l ++ [s']), rfl, k1.tr z2.2.1.w, ⟨hT.m z2.2.1, hb, (z2.2.1.1 11 (by decide) (by decide)).trans h11, z2.1⟩, m3⟩
  · rw [if_neg (show ¬ y.1 11 = 0 by rw [m1.1]; exact nI_ne_0 m1.2.2.1 m1.2.2.2)]
    exact ⟨y, .inr e, rfl, k1, m1, m3⟩
theorem line_12 {a p : Nat} {l : List Int64} (hR : RB12 x T n) (hp : 1 ≤ p) (hp64 : p ≤ 64) (hM : MR T n x (.inl (a, p, l))) : ∃ y r, f_X12_readLine x = some y ∧ KW12 x y ∧ MR T n y r ∧ lineP T n a p l = stopOf T n r := by
  obtain ⟨hT, ha, h11, hW⟩ := id hM
  have h27 : 27 ≤ sTab.length := by decide +kernel
  have hw := isWord_12 hR hT ha h11 (s := 26) (by omega)
  rw [show (26 : Nat) = 6 + 20 from rfl, wd_20 (by decide) (by decide)] at hw
  have hl64 := hW.2.2.1
  unfold f_X12_readLine lineP
  rw [show (26 : Nat) = 6 + 20 from rfl, hw, ob_s]
  by_cases c : kdT T n a = 10
  · have h := kd_10.mpr c
    rw [decide_eq_true h.1, h.2, show b2i (true && true) = 1 from rfl, if_neg ne10, if_pos c, hW.2.1]
    by_cases d : 64 ≤ l.length
    · obtain ⟨y, f1, f2, f3⟩ := blames_12 (k := 4) (by decide) (by decide) hT h11
      rw [if_pos (show nI l.length = (64 : Int32) by rw [show l.length = 64 by omega]; rfl), if_pos d, show (4 : Int32) = nI 4 from rfl, f1, ob_s, if_neg (show ¬ y.1 11 = 0 by rw [f3.1]; exact nI_ne_0 f3.2.2.1 f3.2.2.2)]
      exact ⟨y, .inr (flT T n a 4), rfl, f2, f3, rfl⟩
    · rw [if_neg (show ¬ nI l.length = (64 : Int32) from nI_neq (b := 64) (by omega) (by decide) (by omega)), if_neg d, if_pos h11]
      obtain ⟨y, e1, k1, t1⟩ := reads_12 hR hT.2.1 (enT_le ha)
      rw [e1, ob_s]
      obtain ⟨z, r, z1, z2, z3, z4⟩ := lineTail (b := enT T n a) (hR.k k1) hp hp64 (by omega) ⟨t1, enT_le ha, (k1.2 11 (by decide) (by decide) (by decide) (by decide)).trans h11, hW.k k1⟩
      exact ⟨z, r, z1, k1.w.tr z2, z3, z4⟩
  · have h : (decide (4 ≤ kdT T n a) && wdT T (bgT T n a) (enT T n a) 6) = false := by
      cases hb : (decide (4 ≤ kdT T n a) && wdT T (bgT T n a) (enT T n a) 6) with
      | false => rfl
      | true =>
        rw [Bool.and_eq_true, decide_eq_true_iff] at hb
        exact absurd (kd_10.mp hb) c
    obtain ⟨y, f1, f2, f3⟩ := blames_12 (k := 2) (by decide) (by decide) hT h11
    have y11 : ¬ y.1 11 = 0 := by rw [f3.1]; exact nI_ne_0 f3.2.2.1 f3.2.2.2
    rw [h, show b2i false = 0 from rfl, if_pos rfl, if_neg c, show (2 : Int32) = nI 2 from rfl, f1, ob_s, blames_bad y11, ob_s, if_neg y11, ite_self]
    exact ⟨y, .inr (flT T n a 2), rfl, f2, f3, rfl⟩
theorem stop_12 {r : RD} (hR : RB12 x T n) (hM : MR T n x r) (b2 : Int32) : ∃ y, (if (x.1 9) = 3 then (if (x.1 11) = 0 then (f_X12_reads x).bind (fun x32 => bnd (b2 + 1 : Int32) (fun v35 => some (.inl ((x32, v35))))) else bnd (b2 + 1 : Int32) (fun v30 => some (.inl ((x, v30))))) else (f_X12_blames x 2).bind (fun x37 => (if (x37.1 11) = 0 then (f_X12_reads x37).bind (fun x43 => bnd (b2 + 1 : Int32) (fun v46 => some (.inl ((x43, v46))))) else bnd (b2 + 1 : Int32) (fun v41 => some (.inl ((x37, v41))))))) = some (Sum.inl (y, b2 + 1) : (OS × Int32) ⊕ OS) ∧ KW12 x y ∧ MR T n y (stopOf T n r) := by
  cases r with
  | inr e =>
    have x11 : ¬ x.1 11 = 0 := by rw [hM.1]; exact nI_ne_0 hM.2.2.1 hM.2.2.2
    refine ⟨x, ?_, KW12.rf, hM⟩
    rw [blames_bad x11, ob_s, if_neg x11]
    dsimp only [bnd]
    rw [ite_self]
  | inl q =>
    obtain ⟨a, p, l⟩ := q
    obtain ⟨hT, ha, h11, hW⟩ := id hM
    have hr3 : x.1 9 = 3 ↔ kdT T n a = 1 := by
      rw [hT.2.2.1]
      have hr := rk_lt (kdT T n a)
      constructor
      · intro z
        have z2 : rkT (kdT T n a) = 3 := (nI_eq (b := 3) (by omega) (by decide)).mp z
        unfold rkT at z2
        split at z2
        · omega
        · split at z2
          · assumption
          · split at z2
            · omega
            · split at z2 <;> omega
      · intro z; rw [z]; rfl
    by_cases c : kdT T n a = 1
    · obtain ⟨y, e1, k1, t1⟩ := reads_12 hR hT.2.1 (enT_le ha)
      rw [if_pos (hr3.mpr c), if_pos h11, e1, ob_s]
      refine ⟨y, rfl, k1.w, ?_⟩
      show MR T n y (stopP T n a p l)
      unfold stopP
      rw [if_pos c]
      exact ⟨t1, enT_le ha, (k1.2 11 (by decide) (by decide) (by decide) (by decide)).trans h11, hW.k k1⟩
    · obtain ⟨y, f1, f2, f3⟩ := blames_12 (k := 2) (by decide) (by decide) hT h11
      rw [if_neg (fun z => c (hr3.mp z)), show (2 : Int32) = nI 2 from rfl, f1, ob_s, if_neg (show ¬ y.1 11 = 0 by rw [f3.1]; exact nI_ne_0 f3.2.2.1 f3.2.2.2)]
      refine ⟨y, rfl, f2, ?_⟩
      show MR T n y (stopP T n a p l)
      unfold stopP
      rw [if_neg c]
      exact f3
end RDJ
/-- the text goes forward -/
theorem stop_adv {T : Nat → Nat} {n a p a' p' : Nat} {l l' : List Int64} (h : stopP T n a p l = .inl (a', p', l')) : a ≤ a' ∧ p' = p ∧ l' = l := by
  unfold stopP at h
  split at h
  · have e := Sum.inl.inj h
    injection e with e1 e2
    injection e2 with e2 e3
    have := bgT_ge T n a
    have := enT_ge T n a
    exact ⟨by omega, e2.symm, e3.symm⟩
  · cases h
theorem pnt_adv {T : Nat → Nat} {n p a' p' : Nat} {l l' : List Int64} : ∀ (f b : Nat) (s : Int64), (∀ i, tb s i = true → i < p) → p ≤ 64 → pntP T n p l f b s = .inl (a', p', l') → b ≤ a' ∧ p' = p ∧ ∃ s', l' = l ++ [s'] ∧ 2 ≤ pcn s' ∧ ∀ i, tb s' i = true → i < p := by
  intro f
  induction f with
  | zero => intro b s hs hp h; cases h
  | succ f ih =>
    intro b s hs hp h
    have h1 := bgT_ge T n b
    have h2 := enT_ge T n b
    unfold pntP at h
    split at h
    · split at h
      · rename_i q
        obtain ⟨g1, g2, g3⟩ := ih _ _ (fun i hi => by
          rw [tb_or, Bool.or_eq_true, tb_bit1 (by omega), decide_eq_true_iff] at hi
          rcases hi with hi | hi
          · exact hs i hi
          · rw [hi]; exact q.1) hp h
        exact ⟨by omega, g2, g3⟩
      · cases h
    · split at h
      · cases h
      · obtain ⟨g1, g2, g3⟩ := stop_adv h
        exact ⟨g1, g2, s, g3, by omega, hs⟩
theorem line_adv {T : Nat → Nat} {n a p a' p' : Nat} {l l' : List Int64} (hp : p ≤ 64) (h : lineP T n a p l = .inl (a', p', l')) : a < a' ∧ p' = p ∧ ∃ s', l' = l ++ [s'] ∧ 2 ≤ pcn s' ∧ ∀ i, tb s' i = true → i < p := by
  unfold lineP at h
  split at h
  · rename_i c
    split at h
    · cases h
    · obtain ⟨g1, g2, g3⟩ := pnt_adv _ _ _ (fun i hi => by rw [tb_0] at hi; cases hi) hp h
      have h1 := bgT_ge T n a
      have h2 : bgT T n a < n := by
        rcases Nat.lt_or_ge (bgT T n a) n with q | q
        · exact q
        · rw [kd0.mpr q] at c; cases c
      have h3 := enT_gt h2
      exact ⟨by omega, g2, g3⟩
  · cases h
theorem num_adv {T : Nat → Nat} {n a lo hi v : Nat} (h : numP T n a lo hi = .inl v) : lo ≤ v ∧ v ≤ hi := by
  unfold numP at h
  split at h
  · split at h
    · cases h
    · have := Sum.inl.inj h
      omega
  · cases h
theorem first_adv {T : Nat → Nat} {n a a' p' : Nat} {l' : List Int64} (h : firstP T n a = .inl (a', p', l')) : a < a' ∧ 1 ≤ p' ∧ p' ≤ 64 := by
  have h0 : kdT T n a ≠ 0 := fun z => by
    unfold firstP at h
    simp [z] at h
  have h2 : bgT T n a < n := by
    rcases Nat.lt_or_ge (bgT T n a) n with q | q
    · exact q
    · exact absurd (kd0.mpr q) h0
  have h1 := bgT_ge T n a
  have h3 := enT_gt h2
  have h4 : ∀ b, b ≤ enT T n b := fun b => Nat.le_trans (bgT_ge T n b) (enT_ge T n b)
  unfold firstP at h
  split at h
  · cases hv : numP T n (enT T n a) 1 64 with
    | inr e => rw [hv] at h; cases h
    | inl v =>
      rw [hv] at h
      have g := num_adv hv
      obtain ⟨g1, g2, g3⟩ := stop_adv h
      have := h4 (enT T n a)
      omega
  · split at h
    · cases hu : numP T n (enT T n a) 2 8 with
      | inr e => rw [hu] at h; cases h
      | inl u =>
        rw [hu] at h
        dsimp only at h
        cases hv : numP T n (enT T n (enT T n a)) 2 8 with
        | inr e => rw [hv] at h; cases h
        | inl v =>
          rw [hv] at h
          have g := num_adv hu
          have g' := num_adv hv
          obtain ⟨g1, g2, g3⟩ := stop_adv h
          have := h4 (enT T n a)
          have := h4 (enT T n (enT T n a))
          have m1 : u * v ≤ 8 * 8 := Nat.mul_le_mul g.2 g'.2
          have m2 : 2 * 2 ≤ u * v := Nat.mul_le_mul g.1 g'.1
          omega
    · split at h
      · obtain ⟨g1, g2, g3⟩ := stop_adv h
        omega
      · split at h
        · obtain ⟨g1, g2, g3⟩ := stop_adv h
          omega
        · split at h
          · obtain ⟨g1, g2, g3⟩ := stop_adv h
            omega
          · cases h
theorem lines_12 {x : OS} {T : Nat → Nat} {n : Nat} (hR : RB12 x T n) (hM : MR T n x (.inl (0, 0, []))) : ∃ y, lpv f_X12_world_61 (x, 0) = some y ∧ KW12 x y ∧ MR T n y (readP T n) := by
  have rk0 : ∀ k, k ≤ 10 → (nI (rkT k) = (0 : Int32) ↔ k = 0) := by decide +kernel
  obtain ⟨hT, -, h11, hW⟩ := id hM
  unfold readP
  by_cases c0 : kdT T n 0 = 0
  · rw [if_pos c0]
    refine ⟨x, lpv_out ?_, KW12.rf, hM⟩
    unfold f_X12_world_61
    dsimp only
    rw [if_pos h11, if_pos (by rw [hT.2.2.1]; exact (rk0 _ (kd_lt T n 0)).mpr c0)]
  · rw [if_neg c0]
    obtain ⟨y, e1, k1, m1⟩ := first_12 hR hM
    obtain ⟨z, s1, s2, s3⟩ := stop_12 (hR.w k1) m1 0
    rw [← firstP_eq] at s3
    have hst : f_X12_world_61 (x, 0) = some (.inl (z, nI 1)) := by
      unfold f_X12_world_61
      dsimp only
      rw [if_pos h11, if_neg (fun q => c0 ((rk0 _ (kd_lt T n 0)).mp (by rw [← hT.2.2.1]; exact q))), if_pos rfl, e1, ob_s]
      exact s1
    have hgo := lpv_inv (f := f_X12_world_61) (fun k z => z.2 = nI k ∧ (1 ≤ k ∧ KW12 x z.1) ∧ ∃ r, MR T n z.1 r ∧ linesP T n (701 - k) r = linesP T n 700 (firstP T n 0) ∧ ∀ a p l, r = .inl (a, p, l) → k ≤ a ∧ 1 ≤ p ∧ p ≤ 64) 701 (fun y => KW12 x y ∧ MR T n y (linesP T n 700 (firstP T n 0))) (fun k w hk hI => ?_) (fun w hI => ?_) 1 (z, nI 1) (by decide) ⟨rfl, ⟨Nat.le_refl _, k1.tr s2⟩, _, s3, rfl, fun a p l q => by
      obtain ⟨g1, g2, g3⟩ := first_adv q
      exact ⟨by omega, g2, g3⟩⟩
    · obtain ⟨y, e1, e2, e3⟩ := hgo
      exact ⟨y, by rw [lpv_in hst]; exact e1, e2, e3⟩
    · obtain ⟨w, b⟩ := w
      obtain ⟨g1, ⟨g2, g3⟩, r, g4, g5, g6⟩ := hI
      dsimp only at g1 g3 g4
      subst g1
      rw [show 701 - k = (701 - (k + 1)) + 1 by omega] at g5
      cases r with
      | inr e =>
        right
        rw [show linesP T n (701 - (k + 1) + 1) (.inr e) = .inr e from rfl] at g5
        refine ⟨w, ?_, g3, by rw [← g5]; exact g4⟩
        unfold f_X12_world_61
        dsimp only
        rw [if_neg (show ¬ w.1 11 = 0 by rw [g4.1]; exact nI_ne_0 g4.2.2.1 g4.2.2.2)]
      | inl q =>
        obtain ⟨a, p, l⟩ := q
        obtain ⟨gT, ga, ge, gW⟩ := id g4
        obtain ⟨q1, q2, q3⟩ := g6 a p l rfl
        rw [linesP_l] at g5
        by_cases c : kdT T n a = 0
        · right
          rw [if_pos c] at g5
          refine ⟨w, ?_, g3, by rw [← g5]; exact g4⟩
          unfold f_X12_world_61
          dsimp only
          rw [if_pos ge, if_pos (by rw [gT.2.2.1]; exact (rk0 _ (kd_lt T n a)).mpr c)]
        · left
          rw [if_neg c] at g5
          obtain ⟨y, r, e1, k1, m1, e2⟩ := line_12 (hR.w g3) q2 q3 g4
          obtain ⟨z, s1, s2, s3⟩ := stop_12 ((hR.w g3).w k1) m1 (nI k)
          rw [← e2] at s3
          refine ⟨(z, nI (k + 1)), ?_, rfl, ⟨by omega, (g3.tr k1).tr s2⟩, _, s3, g5, fun a' p' l' q => ?_⟩
          · unfold f_X12_world_61
            dsimp only
            rw [if_pos ge, if_neg (fun q => c ((rk0 _ (kd_lt T n a)).mp (by rw [← gT.2.2.1]; exact q))), if_neg (show ¬ nI k = 0 from nI_neq (b := 0) (by omega) (by decide) (by omega)), e1, ob_s]
            rw [← nI_1]
            exact s1
          · obtain ⟨t1, t2, -⟩ := line_adv q3 q
            exact ⟨by omega, by omega, by omega⟩
    · obtain ⟨w, b⟩ := w
      obtain ⟨g1, ⟨g2, g3⟩, r, g4, g5, g6⟩ := hI
      dsimp only at g1 g3 g4
      subst g1
      cases r with
      | inr e =>
        rw [show linesP T n (701 - 701) (.inr e) = .inr e from rfl] at g5
        refine ⟨w, ?_, g3, by rw [← g5]; exact g4⟩
        unfold f_X12_world_61
        dsimp only
        rw [if_neg (show ¬ w.1 11 = 0 by rw [g4.1]; exact nI_ne_0 g4.2.2.1 g4.2.2.2)]
      | inl q =>
        obtain ⟨a, p, l⟩ := q
        have := g6 a p l rfl
        have := g4.2.1
        have := hR.2.1
        omega
