/-! the text: the reference reads the first line, and the others -/
theorem TK12.m {x y : OS} {T : Nat → Nat} {n a : Nat} (h : TK12 x T n a) (k : KM12 x y) : TK12 y T n a :=
  ⟨(k.1 8 (by decide) (by decide)).trans h.1, (k.1 7 (by decide) (by decide)).trans h.2.1, (k.1 9 (by decide) (by decide)).trans h.2.2.1, fun z => (k.1 10 (by decide) (by decide)).trans (h.2.2.2 z)⟩
noncomputable def firstQ (T : Nat → Nat) (n a : Nat) : RD :=
  if kdT T n a = 5 then (match numP T n (enT T n a) 1 64 with
    | .inl v => .inl (enT T n (enT T n a), v, [])
    | .inr e => .inr e)
  else if kdT T n a = 6 then (match numP T n (enT T n a) 2 8 with
    | .inr e => .inr e
    | .inl u => match numP T n (enT T n (enT T n a)) 2 8 with
      | .inr e => .inr e
      | .inl v => .inl (enT T n (enT T n (enT T n a)), u * v, gdL u v))
  else if kdT T n a = 7 then .inl (enT T n a, 15, dgL 0)
  else if kdT T n a = 8 then .inl (enT T n a, 27, sxL ++ dgL 12)
  else if kdT T n a = 9 then .inl (enT T n a, 40, thL)
  else .inr (flT T n a 2)
theorem firstP_eq (T : Nat → Nat) (n a : Nat) : firstP T n a = stopOf T n (firstQ T n a) := by
  unfold firstP firstQ
  by_cases c5 : kdT T n a = 5
  · rw [if_pos c5, if_pos c5]
    cases numP T n (enT T n a) 1 64 <;> rfl
  rw [if_neg c5, if_neg c5]
  by_cases c6 : kdT T n a = 6
  · rw [if_pos c6, if_pos c6]
    cases numP T n (enT T n a) 2 8 with
    | inr e => rfl
    | inl u =>
      dsimp only
      cases numP T n (enT T n (enT T n a)) 2 8 <;> rfl
  rw [if_neg c6, if_neg c6]
  by_cases c7 : kdT T n a = 7
  · rw [if_pos c7, if_pos c7]; rfl
  rw [if_neg c7, if_neg c7]
  by_cases c8 : kdT T n a = 8
  · rw [if_pos c8, if_pos c8]; rfl
  rw [if_neg c8, if_neg c8]
  by_cases c9 : kdT T n a = 9
  · rw [if_pos c9, if_pos c9]; rfl
  rw [if_neg c9, if_neg c9]; rfl
section RDF
variable {x : OS} {T : Nat → Nat} {n : Nat}
theorem first_12 (hR : RB12 x T n) {a : Nat} (hM : MR T n x (.inl (a, 0, []))) : ∃ y, f_X12_readFirst x = some y ∧ KW12 x y ∧ MR T n y (firstQ T n a) := by
  obtain ⟨hT, ha, h11, hW⟩ := id hM
  have h1 := enT_le (T := T) ha
  have bnd8 : ∀ {b v : Nat}, numP T n b 2 8 = .inl v → 2 ≤ v ∧ v ≤ 8 := fun e => by
    unfold numP at e
    split at e
    · split at e
      · cases e
      · have := Sum.inl.inj e
        omega
    · cases e
  have mrE : ∀ {z : OS} {e : Nat × Nat} (v : Int32), MR T n z (.inr e) → MR T n (oI z 15 v) (.inr e) := fun {z e} v h => ⟨by rw [oI_ne _ (by decide)]; exact h.1, by rw [oI_ne _ (by decide)]; exact h.2.1, h.2.2⟩
  have after : ∀ {y : OS}, KR12 x y → y.1 11 = 0 ∧ y.1 16 = 0 := fun k => ⟨(k.2 11 (by decide) (by decide) (by decide) (by decide)).trans h11, (k.2 16 (by decide) (by decide) (by decide) (by decide)).trans hW.2.1⟩
  unfold f_X12_readFirst firstQ
  rcases took_12 hR hM (s := 1) (by decide) (by decide) kd_5 with ⟨c5, y, e1, k1, t1⟩ | ⟨c5, e1⟩
  · obtain ⟨y11, y16⟩ := after k1
    rw [if_pos c5, show (21 : Nat) = 1 + 20 from rfl, e1, ob_s]
    dsimp only
    rw [if_neg ne10, show (1 : Int32) = nI 1 from rfl, show (64 : Int32) = nI 64 from rfl]
    rcases number_12 (hR.k k1) (lo := 1) (hi := 64) t1 h1 y11 (by decide) (by decide) with ⟨v, z, g1, g2, g3, g4, g5⟩ | ⟨e, z, g1, g2, g3, g4⟩
    · rw [g2, ob_s, g1]
      dsimp only [bnd]
      have z16 : z.1 16 = 0 := (g3.2 16 (by decide) (by decide) (by decide) (by decide)).trans y16
      refine ⟨_, rfl, (k1.w.tr g3.w).o (by omega) _, g4.m (KM12.rf.o15 _), enT_le h1, by rw [oI_ne _ (by decide)]; exact g5, oI_self _ _ _, ?_, Nat.zero_le _, fun i hi => absurd hi (Nat.not_lt_zero _)⟩
      rw [oI_ne _ (by decide)]
      exact z16
    · rw [g2, ob_s, g1]
      dsimp only [bnd]
      exact ⟨_, rfl, (k1.w.tr g3).o (by omega) _, mrE _ g4⟩
  rw [if_neg c5, show (21 : Nat) = 1 + 20 from rfl, e1, ob_s]
  dsimp only
  rw [if_pos rfl]
  rcases took_12 hR hM (s := 2) (by decide) (by decide) (kd_6 c5) with ⟨c6, y, e2, k1, t1⟩ | ⟨c6, e2⟩
  · obtain ⟨y11, y16⟩ := after k1
    rw [if_pos c6, show (22 : Nat) = 2 + 20 from rfl, e2, ob_s]
    dsimp only
    rw [if_neg ne10, show (2 : Int32) = nI 2 from rfl, show (8 : Int32) = nI 8 from rfl]
    rcases number_12 (hR.k k1) (lo := 2) (hi := 8) t1 h1 y11 (by decide) (by decide) with ⟨u, z, g1, g2, g3, g4, g5⟩ | ⟨e, z, g1, g2, g3, g4⟩
    · rw [g2, ob_s, g1]
      dsimp only
      have hu := bnd8 g1
      rcases number_12 ((hR.k k1).k g3) (lo := 2) (hi := 8) g4 (enT_le h1) g5 (by decide) (by decide) with ⟨v, z', g1', g2', g3', g4', g5'⟩ | ⟨e, z', g1', g2', g3', g4'⟩
      · rw [g2', ob_s, g1']
        dsimp only
        have hv := bnd8 g1'
        have z16 : z'.1 16 = 0 := (g3'.2 16 (by decide) (by decide) (by decide) (by decide)).trans ((g3.2 16 (by decide) (by decide) (by decide) (by decide)).trans y16)
        obtain ⟨w, w1, w2⟩ := grid_12 (st := z') (a := u) (b := v) hu.2 hv.2 z16
        rw [if_pos g5', w1, ob_s]
        exact ⟨w, rfl, ((k1.w.tr g3.w).tr g3'.w).tr w2.2.1.w, g4'.m w2.2.1, enT_le (enT_le h1), (w2.2.1.1 11 (by decide) (by decide)).trans g5', w2.1⟩
      · have z11 : ¬ z'.1 11 = 0 := by rw [g4'.1]; exact nI_ne_0 g4'.2.2.1 g4'.2.2.2
        rw [g2', ob_s, g1']
        dsimp only
        rw [if_neg z11]
        exact ⟨z', rfl, (k1.w.tr g3.w).tr g3', g4'⟩
    · have z11 : ¬ z.1 11 = 0 := by rw [g4.1]; exact nI_ne_0 g4.2.2.1 g4.2.2.2
      rw [g2, ob_s, g1]
      dsimp only
      rw [number_bad z11, ob_s]
      dsimp only
      rw [if_neg z11]
      exact ⟨z, rfl, k1.w.tr g3, g4⟩
  rw [if_neg c6, show (22 : Nat) = 2 + 20 from rfl, e2, ob_s]
  dsimp only
  rw [if_pos rfl]
  rcases took_12 hR hM (s := 3) (by decide) (by decide) (kd_7 c5 c6) with ⟨c7, y, e3, k1, t1⟩ | ⟨c7, e3⟩
  · obtain ⟨y11, y16⟩ := after k1
    rw [if_pos c7, show (23 : Nat) = 3 + 20 from rfl, e3, ob_s]
    dsimp only [bnd]
    rw [if_neg ne10]
    obtain ⟨t, ht⟩ : ∃ t, t = oI y 15 (nI 15) := ⟨_, rfl⟩
    have p0 : NP t 15 t [] := ⟨⟨by rw [ht, oI_self], by rw [ht, oI_ne _ (by decide), y16]; rfl, Nat.zero_le _, fun i hi => absurd hi (Nat.not_lt_zero _)⟩, KM12.rf, rfl⟩
    obtain ⟨w, w1, w2⟩ := duads_12 (z := 0) (by decide) p0 (by show 0 + (rgL 0).length ≤ 64; rw [← dg_rg.1, dg_rg.2.2.1]; decide)
    rw [List.nil_append, ← dg_rg.1] at w2
    have km : KM12 y w := (KM12.rf.o15 (nI 15)).tr (by rw [← ht]; exact w2.2.1)
    rw [show (15 : Int32) = nI 15 from rfl, ← ht, show (0 : Int32) = nI 0 from rfl, w1, ob_s]
    exact ⟨w, rfl, k1.w.tr km.w, t1.m km, h1, (km.1 11 (by decide) (by decide)).trans y11, w2.1⟩
  rw [if_neg c7, show (23 : Nat) = 3 + 20 from rfl, e3, ob_s]
  dsimp only
  rw [if_pos rfl]
  rcases took_12 hR hM (s := 4) (by decide) (by decide) (kd_8 c5 c6 c7) with ⟨c8, y, e4, k1, t1⟩ | ⟨c8, e4⟩
  · obtain ⟨y11, y16⟩ := after k1
    rw [if_pos c8, show (24 : Nat) = 4 + 20 from rfl, e4, ob_s]
    dsimp only [bnd]
    rw [if_neg ne10]
    obtain ⟨t, ht⟩ : ∃ t, t = oI y 15 (nI 27) := ⟨_, rfl⟩
    have p0 : NP t 27 t [] := ⟨⟨by rw [ht, oI_self], by rw [ht, oI_ne _ (by decide), y16]; rfl, Nat.zero_le _, fun i hi => absurd hi (Nat.not_lt_zero _)⟩, KM12.rf, rfl⟩
    obtain ⟨w, w1, w2⟩ := sixes_12 p0
    have km : KM12 y w := (KM12.rf.o15 (nI 27)).tr (by rw [← ht]; exact w2.2.1)
    rw [show (27 : Int32) = nI 27 from rfl, ← ht, w1, ob_s]
    exact ⟨w, rfl, k1.w.tr km.w, t1.m km, h1, (km.1 11 (by decide) (by decide)).trans y11, w2.1⟩
  rw [if_neg c8, show (24 : Nat) = 4 + 20 from rfl, e4, ob_s]
  dsimp only
  rw [if_pos rfl]
  rcases took_12 hR hM (s := 5) (by decide) (by decide) (kd_9 c5 c6 c7 c8) with ⟨c9, y, e5, k1, t1⟩ | ⟨c9, e5⟩
  · obtain ⟨y11, y16⟩ := after k1
    rw [if_pos c9, show (25 : Nat) = 5 + 20 from rfl, e5, ob_s]
    dsimp only
    rw [if_neg ne10]
    obtain ⟨w, w1, w2, km⟩ := threes_12 (s := y) y16
    rw [w1, ob_s]
    exact ⟨w, rfl, k1.w.tr km.w, t1.m km, h1, (km.1 11 (by decide) (by decide)).trans y11, w2⟩
  rw [if_neg c9, show (25 : Nat) = 5 + 20 from rfl, e5, ob_s]
  dsimp only
  rw [if_pos rfl]
  obtain ⟨y, f1, f2, f3⟩ := blames_12 (k := 2) (by decide) (by decide) hT h11
  rw [show (2 : Int32) = nI 2 from rfl, f1, ob_s]
  exact ⟨y, rfl, f2, f3⟩
/-- the points of a line -/
theorem points_12 {p : Nat} {l : List Int64} (hp : 1 ≤ p) (hp64 : p ≤ 64) : ∀ (f b c : Nat) (x : OS) (s : Int64), f + c = 66 → pcn s = c → (∀ i, tb s i = true → i < p) → RB12 x T n → MR T n x (.inl (b, p, l)) →
    ∃ y s', lpv f_X12_readLine_44 (x, s, nI c) = some (y, s') ∧ KW12 x y ∧ ((∃ b', MR T n y (.inl (b', p, l)) ∧ RB12 y T n ∧ pntP T n p l f b s = stopP T n b' p (l ++ [s'])) ∨ ∃ e, MR T n y (.inr e) ∧ pntP T n p l f b s = .inr e) := by
  intro f
  induction f with
  | zero =>
    intro b c x s hf hc
    have := pcn_le s
    omega
  | succ f ih =>
    intro b c x s hf hc hs hR hM
    have hcs := pcn_le s
    obtain ⟨hT, hb, h11, hW⟩ := id hM
    have hr2 : x.1 9 = 2 ↔ kdT T n b = 2 := by
      rw [hT.2.2.1]
      have hr := rk_lt (kdT T n b)
      constructor
      · intro z
        have z2 : rkT (kdT T n b) = 2 := (nI_eq (b := 2) (by omega) (by decide)).mp z
        unfold rkT at z2
        split at z2
        · omega
        · split at z2
          · omega
          · split at z2
            · assumption
            · split at z2 <;> omega
      · intro z; rw [z]; rfl
    have hp1 : x.1 15 - 1 = nI (p - 1) := by rw [hW.1]; exact pk_sub hp
    have hlt2 : nI c < (2 : Int32) ↔ c < 2 := ⟨fun z => by
      rcases Nat.lt_or_ge c 2 with q | q
      · exact q
      · exact absurd z (nI_nlt (b := 2) q (by omega)), fun z => nI_lt (b := 2) z (by decide)⟩
    -- a fault ends the loop
    have out : ∀ {y : OS} {e : Nat × Nat} (s' : Int64) (c' : Nat), MR T n y (.inr e) → lpv f_X12_readLine_44 (y, s', nI c') = some (y, s') := fun {y e} s' c' hE => lpv_out (by
      have : ¬ y.1 11 = 0 := by rw [hE.1]; exact nI_ne_0 hE.2.2.1 hE.2.2.2
      unfold f_X12_readLine_44
      dsimp only
      rw [if_neg this])
    unfold pntP
    by_cases c2 : kdT T n b = 2
    · have hv := (nv_lt c2).1
      rw [if_pos c2]
      have hst : f_X12_readLine_44 (x, s, nI c) = if nvT T n b < p then (if tb s (nvT T n b) = true then (f_X12_blames x 3).bind (fun x54 => (f_X12_number x54 0 ((x54.1 15) - 1)).bind (fun x57 => (f_X12_bit x57.1).bind (fun x61 => some (.inl (x57.2, s ||| x61, nI (c + 1)))))) else (f_X12_number x 0 ((x.1 15) - 1)).bind (fun x57 => (f_X12_bit x57.1).bind (fun x61 => some (.inl (x57.2, s ||| x61, nI (c + 1)))))) else (f_X12_number x 0 ((x.1 15) - 1)).bind (fun x57 => (f_X12_bit x57.1).bind (fun x61 => some (.inl (x57.2, s ||| x61, nI (c + 1))))) := by
        have hwi : f_X12_within ((x.1 10 : Int32).toInt64) 0 ((x.1 15 - 1 : Int32).toInt64) = some (if nvT T n b < p then 1 else 0) := by
          rw [hp1, hT.2.2.2 c2, show (0 : Int64) = (nI 0).toInt64 from rfl, within_g]
          by_cases q : nvT T n b < p
          · rw [if_neg (fun z => z.elim (nI_nlt (Nat.zero_le _) (by omega)) (nI_nlt (by omega) (by omega))), if_pos q]
          · rw [if_pos (Or.inr (nI_lt (by omega) (by omega))), if_neg q]
        unfold f_X12_readLine_44
        dsimp only [bnd]
        rw [h11, if_pos rfl, if_pos (hr2.mpr c2), if_pos (hr2.mpr c2), hwi, ob_s, nI_1, ite_self]
        by_cases q : nvT T n b < p
        · rw [if_pos q, if_neg ne10, if_pos q, hT.2.2.2 c2, has_12 (by omega), ob_s]
          cases hb2 : tb s (nvT T n b) with
          | true => rw [if_neg b2t, if_pos rfl]
          | false => rw [if_pos b2f, if_neg (by decide)]
        · rw [if_neg q, if_pos rfl, if_neg q]
      by_cases c3 : nvT T n b < p
      · rw [if_pos c3] at hst
        by_cases c4 : tb s (nvT T n b) = true
        · rw [if_pos c4] at hst
          obtain ⟨y, f1, f2, f3⟩ := blames_12 (k := 3) (by decide) (by decide) hT h11
          have y11 : ¬ y.1 11 = 0 := by rw [f3.1]; exact nI_ne_0 f3.2.2.1 f3.2.2.2
          rw [show (3 : Int32) = nI 3 from rfl, f1, ob_s, number_bad y11, ob_s] at hst
          dsimp only at hst
          rw [show (0 : Int32) = nI 0 from rfl, bit_12 (by decide), ob_s] at hst
          rw [if_neg (fun z => by rw [c4] at z; cases z.2)]
          exact ⟨y, _, by rw [lpv_in hst]; exact out _ _ f3, f2, Or.inr ⟨_, f3, rfl⟩⟩
        · rw [if_neg c4] at hst
          rw [hp1, show (0 : Int32) = nI 0 from rfl] at hst
          rcases number_12 hR (lo := 0) (hi := p - 1) hT hb h11 (by decide) (by omega) with ⟨v, z, g1, g2, g3, g4, g5⟩ | ⟨e, z, g1, g2, g3, g4⟩
          · have hvv : v = nvT T n b := by
              unfold numP at g1
              rw [if_pos c2, if_neg (by omega)] at g1
              exact (Sum.inl.inj g1).symm
            subst hvv
            rw [g2, ob_s] at hst
            dsimp only at hst
            rw [bit_12 (by omega), ob_s] at hst
            rw [if_pos ⟨c3, Bool.eq_false_iff.mpr c4⟩]
            obtain ⟨y, s', q1, q2, q3⟩ := ih (enT T n b) (c + 1) z (s ||| bit1 (nvT T n b)) (by omega) (by rw [pcn_add (by omega) (Bool.eq_false_iff.mpr c4), hc]) (fun i hi => by
              rw [tb_or, Bool.or_eq_true, tb_bit1 (by omega), decide_eq_true_iff] at hi
              rcases hi with hi | hi
              · exact hs i hi
              · rw [hi]; exact c3) (hR.k g3) ⟨g4, enT_le hb, g5, hW.k g3⟩
            exact ⟨y, s', by rw [lpv_in hst]; exact q1, g3.w.tr q2, q3⟩
          · exfalso
            unfold numP at g1
            rw [if_pos c2, if_neg (by omega)] at g1
            cases g1
      · rw [if_neg c3] at hst
        rw [hp1, show (0 : Int32) = nI 0 from rfl] at hst
        rw [if_neg (fun z => c3 z.1)]
        rcases number_12 hR (lo := 0) (hi := p - 1) hT hb h11 (by decide) (by omega) with ⟨v, z, g1, g2, g3, g4, g5⟩ | ⟨e, z, g1, g2, g3, g4⟩
        · exfalso
          unfold numP at g1
          rw [if_pos c2, if_pos (by omega)] at g1
          cases g1
        · have he : e = flT T n b 3 := by
            unfold numP at g1
            rw [if_pos c2, if_pos (by omega)] at g1
            exact (Sum.inr.inj g1).symm
          subst he
          rw [g2, ob_s] at hst
          dsimp only at hst
          rw [bit_12 (by decide), ob_s] at hst
          exact ⟨z, _, by rw [lpv_in hst]; exact out _ _ g4, g3, Or.inr ⟨_, g4, rfl⟩⟩
    · rw [if_neg c2]
      by_cases c3 : c < 2
      · rw [if_pos (by omega)]
        rcases number_12 hR (lo := 0) (hi := p - 1) hT hb h11 (by decide) (by omega) with ⟨v, z, g1, g2, g3, g4, g5⟩ | ⟨e, z, g1, g2, g3, g4⟩
        · exfalso
          unfold numP at g1
          rw [if_neg c2] at g1
          cases g1
        · have he : e = flT T n b 2 := by
            unfold numP at g1
            rw [if_neg c2] at g1
            exact (Sum.inr.inj g1).symm
          subst he
          have hst : f_X12_readLine_44 (x, s, nI c) = some (.inl (z, s ||| bit1 0, nI (c + 1))) := by
            unfold f_X12_readLine_44
            dsimp only [bnd]
            rw [h11, if_pos rfl, if_pos (hlt2.mpr c3), if_neg (fun q => c2 (hr2.mp q)), hp1, show (0 : Int32) = nI 0 from rfl, g2, ob_s]
            dsimp only
            rw [bit_12 (by decide), ob_s, nI_1]
          exact ⟨z, _, by rw [lpv_in hst]; exact out _ _ g4, g3, Or.inr ⟨_, g4, rfl⟩⟩
      · rw [if_neg (by omega)]
        have hst : f_X12_readLine_44 (x, s, nI c) = some (.inr (x, s)) := by
          unfold f_X12_readLine_44
          dsimp only [bnd]
          rw [h11, if_pos rfl, if_neg (fun q => c3 (hlt2.mp q)), if_neg (fun q => c2 (hr2.mp q))]
        exact ⟨x, s, lpv_out hst, KW12.rf, Or.inl ⟨b, hM, hR, rfl⟩⟩
end RDF
