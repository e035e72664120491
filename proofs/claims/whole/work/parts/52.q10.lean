/-! questions: rank over 3, 5, 7: rows alike up to a factor -/
def RLp (p m n r k : Nat) (T U : Nat → Nat → Nat) : Prop := ∀ l, r ≤ l → l < m → ∃ u, 1 ≤ u ∧ u < p ∧ ∀ i, k ≤ i → i < n → U l i = (u * T l i) % p
theorem unit_p : ∀ p, p ∈ [2, 3, 5, 7] → ∀ u, u < p → 1 ≤ u → ∀ x, x < p → 1 ≤ x → (u * x) % p ≠ 0 := by decide +kernel
theorem neg_p : ∀ p, p ∈ [2, 3, 5, 7] → ∀ u, u < p → ∀ a, a < p → (p - (u * a) % p) % p = ((p - a) * u) % p := by decide +kernel
theorem mix_p {p u v A a L l t : Nat} (hp : p ∈ [2, 3, 5, 7]) (hu : u < p) (ha : a < p) (ht : (t * l) % p = 1) : ((v * l) % p * ((u * A) % p) + (p - (u * a) % p) * ((v * L) % p)) % p = ((v * l * u) % p * ((A + (p - a) * ((L * t) % p)) % p)) % p := by
  have e1 : ((v * l) % p * ((u * A) % p)) % p = (v * l * (u * A)) % p := by rw [← Nat.mul_mod]
  have e2 : ((p - (u * a) % p) * ((v * L) % p)) % p = (((p - a) * u) * (v * L)) % p := by
    rw [Nat.mul_mod (p - (u * a) % p), neg_p p hp u hu a ha, Nat.mod_mod, ← Nat.mul_mod]
  have e3 : ((v * l * u) * ((p - a) * ((L * t) % p))) % p = (((p - a) * u) * (v * L)) % p := by
    have h1 : (v * l * u) * ((p - a) * ((L * t) % p)) = (v * l * u * (p - a)) * ((L * t) % p) := by ac_rfl
    have h2 : (v * l * u * (p - a)) * (L * t) = (((p - a) * u) * (v * L)) * (t * l) := by ac_rfl
    rw [h1, Nat.mul_mod_mod, h2, ← Nat.mul_mod_mod, ht, Nat.mul_one]
  have e4 : (v * l * u) * A = v * l * (u * A) := by ac_rfl
  rw [Nat.add_mod, e1, e2, ← Nat.mul_mod, Nat.mul_add, Nat.add_mod (v * l * u * A), e3, e4]
theorem rl_zero {p m n r k : Nat} {T U : Nat → Nat → Nat} (hp : p ∈ [2, 3, 5, 7]) (hR : RLp p m n r k T U) (hT : ∀ l i, l < m → i < n → T l i < p) (hk : k < n) {l : Nat} (h1 : r ≤ l) (h2 : l < m) : U l k = 0 ↔ T l k = 0 := by
  obtain ⟨u, u1, u2, u3⟩ := hR l h1 h2
  rw [u3 k (Nat.le_refl _) hk]
  constructor
  · intro z
    rcases Nat.eq_zero_or_pos (T l k) with q | q
    · exact q
    · exact absurd z (unit_p p hp u u2 u1 _ (hT l k h2 hk) q)
  · intro z
    rw [z, Nat.mul_zero, Nat.zero_mod]
theorem rl_step {p m n r k l t : Nat} {T U : Nat → Nat → Nat} (hp : p ∈ [2, 3, 5, 7]) (hR : RLp p m n r k T U) (hT : ∀ l i, l < m → i < n → T l i < p) (hU : ∀ l i, l < m → i < n → U l i < p) (hk : k < n) (h1 : r ≤ l) (h2 : l < m) (h0 : T l k ≠ 0) (ht : (t * T l k) % p = 1) : RLp p m n (r + 1) (k + 1) (elT p (swT p T r l t) r k) (clU p m (swU U r l) r k) := by
  intro o g1 g2
  have hp7 := p7 hp
  have hro : r < m := by omega
  have key : ∃ s, r ≤ s ∧ s < m ∧ (∀ i, swT p T r l t o i = T s i) ∧ ∀ i, swU U r l o i = U s i := by
    by_cases q : o = l
    · exact ⟨r, Nat.le_refl _, hro, fun i => by unfold swT; rw [if_neg (show ¬ o = r by omega), if_pos q], fun i => by unfold swU; rw [if_neg (show ¬ o = r by omega), if_pos q]⟩
    · exact ⟨o, by omega, g2, fun i => by unfold swT; rw [if_neg (show ¬ o = r by omega), if_neg q], fun i => by unfold swU; rw [if_neg (show ¬ o = r by omega), if_neg q]⟩
  obtain ⟨s, s1, s2, s3, s4⟩ := key
  have sr : ∀ i, swT p T r l t r i = (T l i * t) % p := fun i => by unfold swT; rw [if_pos rfl]
  have ur : ∀ i, swU U r l r i = U l i := fun i => by unfold swU; rw [if_pos rfl]
  obtain ⟨u, u1, u2, u3⟩ := hR s s1 s2
  obtain ⟨v, v1, v2, v3⟩ := hR l h1 h2
  have el : ∀ i, elT p (swT p T r l t) r k o i = (T s i + (p - T s k) * ((T l i * t) % p)) % p := fun i => by
    unfold elT
    rw [if_pos (show r < o by omega), s3, s3, sr]
  by_cases z : U s k = 0
  · have z2 := (rl_zero hp hR hT hk s1 s2).mp z
    refine ⟨u, u1, u2, fun i i1 i2 => ?_⟩
    rw [el i, z2]
    unfold clU
    rw [if_neg (fun c => c.2.2.2 (by rw [s4]; exact z)), s4, u3 i (by omega) i2]
    rw [Nat.sub_zero, Nat.add_mul_mod_self_left, Nat.mod_eq_of_lt (hT s i s2 i2)]
  · have hl := hT l k h2 hk
    refine ⟨(v * T l k * u) % p, ?_, Nat.mod_lt _ (by omega), fun i i1 i2 => ?_⟩
    · have h3 := unit_p p hp v v2 v1 _ hl (by omega)
      have h4 := unit_p p hp ((v * T l k) % p) (Nat.mod_lt _ (by omega)) (by omega) u u2 u1
      rw [Nat.mod_mul_mod] at h4
      omega
    · rw [el i]
      unfold clU
      rw [if_pos ⟨by omega, g2, by omega, by rw [s4]; exact z⟩, ur, ur, s4, s4, u3 i (by omega) i2, u3 k (Nat.le_refl _) hk, v3 i (by omega) i2, v3 k (Nat.le_refl _) hk]
      exact mix_p hp u2 (hT s k s2 hk) ht
section RKO
variable {st : OS} {w : Wd} {p : Nat}
theorem r65_out {x : OS} {r k : Nat} (hx : RWo x w.1 w.2) (hr : r ≤ w.2.length) (hk : k ≤ w.1) (h : r = w.2.length ∨ k = w.1) (b1 : Int32) : lpv (f_X12_rankOf_65 b1) (x, nI r, nI k) = some (x, nI r) := by
  have hn := hx.2.2.1
  have hm := hx.2.2.2.1
  apply lpv_out
  unfold f_X12_rankOf_65
  dsimp only
  rw [hx.1, hx.2.1]
  rcases h with h | h
  · by_cases c : nI w.1 ≤ nI k
    · rw [if_pos c]
    · rw [if_neg c, if_pos (nI_le (by omega) (by omega))]
  · rw [if_pos (nI_le (by omega) (by omega))]
theorem r76_out {c stn : OS} {r k : Nat} (hw : CW stn w) (hr : r ≤ w.2.length) (hk : k ≤ w.1) (h : r = 64 ∨ k = w.1) (b1 : Int32) : lpv (f_X4_rankOver_76 stn b1) (c, nI r, nI k) = some (c, nI r) := by
  have hn := hw.1.2.2.1
  have hm := hw.1.2.2.2.1
  apply lpv_out
  unfold f_X4_rankOver_76
  dsimp only
  rw [hw.1.1]
  by_cases g : nI w.1 ≤ nI k
  · rw [if_pos g]
  · rw [if_neg g]
    by_cases g2 : (64 : Int32) ≤ nI k
    · rw [if_pos g2]
    · rw [if_neg g2]
      rcases h with h | h
      · rw [if_pos (show (64 : Int32) ≤ nI r from nI_le (a := 64) (by omega) (by omega))]
      · exact absurd (nI_le (show w.1 ≤ k by omega) (by omega)) g
theorem rank_o (hp : p ∈ [2, 3, 5, 7]) (hp2 : p ≠ 2) (h : RWo st w.1 w.2) : ∃ v x, f_X12_rankOf st (nI p) = some (nI v, x) ∧ Kp st x ∧ ∀ stn scr, CW stn w → ∃ z, f_X4_rankOver scr stn (nI p) = some (nI v, z) := by
  have hp7 := p7 hp
  have hn := h.2.2.1
  have hm := h.2.2.2.1
  obtain ⟨x0, a1, a2, a3⟩ := rk_fill h hp7.1 (nI p)
  have P : ∀ k, k ≤ w.1 → ∃ x T r, r ≤ w.2.length ∧ lpv (f_X12_rankOf_65 (nI p)) (x0, 0, 0) = lpv (f_X12_rankOf_65 (nI p)) (x, nI r, nI k) ∧ Kp st x ∧ TB (x.2.2.1 30) w.2.length w.1 p T ∧ ∀ stn scr, CW stn w → ∃ c0, lpv (f_X4_rankOver_13 stn (nI p)) (scr, 0) = some c0 ∧ ∃ c U, lpv (f_X4_rankOver_76 stn (nI p)) (c0, 0, 0) = lpv (f_X4_rankOver_76 stn (nI p)) (c, nI r, nI k) ∧ TB (c.2.2.1 0) 64 64 p U ∧ RLp p w.2.length w.1 r k T U := by
    intro k
    induction k with
    | zero =>
      intro _
      refine ⟨x0, T0 w, 0, Nat.zero_le _, rfl, a2, a3, fun stn scr hw => ?_⟩
      obtain ⟨c0, b1, b2⟩ := ck_fill hw hp7.1 (nI p) scr
      refine ⟨c0, b1, c0, T0 w, rfl, b2, fun l _ hl => ⟨1, Nat.le_refl _, by omega, fun i _ hi => ?_⟩⟩
      rw [Nat.one_mul, Nat.mod_eq_of_lt (a3 l i hl hi).2]
    | succ k ih =>
      intro hk
      obtain ⟨x, T, r, r1, r2, r3, r4, r5⟩ := ih (by omega)
      have hx := h.kp r3
      rcases Nat.lt_or_ge r w.2.length with q | q
      · rcases rk_step hx hp r4 q (show k < w.1 by omega) with ⟨s1, s2⟩ | ⟨l, t, y, s1, s2, s3, s4, s5, s6, s7, s8, s9⟩
        · refine ⟨x, T, r, r1, by rw [r2, lpv_in s2], r3, r4, fun stn scr hw => ?_⟩
          obtain ⟨c0, b1, c, U, b2, b3, b4⟩ := r5 stn scr hw
          refine ⟨c0, b1, c, U, ?_, b3, fun l l1 l2 => ?_⟩
          · rcases ck_step hw hp b3 r1 (by omega) (show k < w.1 by omega) with ⟨_, g2⟩ | ⟨l, v, g1, g2, g3, _⟩
            · rw [b2, lpv_in g2]
            · exact absurd ((rl_zero hp b4 (fun l i a b => (r4 l i a b).2) (show k < w.1 by omega) g1 g2).mpr (s1 l g1 g2)) g3
          · obtain ⟨u, u1, u2, u3⟩ := b4 l l1 l2
            exact ⟨u, u1, u2, fun i i1 i2 => u3 i (by omega) i2⟩
        · refine ⟨y, _, r + 1, q, by rw [r2, lpv_in s7], Keep.tr r3 s8, s9, fun stn scr hw => ?_⟩
          obtain ⟨c0, b1, c, U, b2, b3, b4⟩ := r5 stn scr hw
          have hz := fun l g1 g2 => rl_zero hp b4 (fun l i a b => (r4 l i a b).2) (show k < w.1 by omega) (l := l) g1 g2
          rcases ck_step hw hp b3 r1 (by omega) (show k < w.1 by omega) with ⟨g1, _⟩ | ⟨l', v, g1, g2, g3, g4, g5, g6⟩
          · exact absurd ((hz l s1 s2).mp (g1 l s1 s2)) s3
          · have hll : l' = l := by
              rcases Nat.lt_trichotomy l' l with c | c | c
              · exact absurd ((hz l' g1 g2).mpr (s4 l' g1 c)) g3
              · exact c
              · exact absurd ((hz l s1 s2).mp (g4 l s1 c)) s3
            subst hll
            exact ⟨c0, b1, v, _, by rw [b2, lpv_in g5], g6, rl_step hp b4 (fun l i a b => (r4 l i a b).2) (fun l i a b => (b3 l i (by omega) (by omega)).2) (by omega) s1 s2 s3 s6⟩
      · have hr : r = w.2.length := by omega
        refine ⟨x, T, r, r1, by rw [r2, r65_out hx r1 (by omega) (Or.inl hr), r65_out hx r1 hk (Or.inl hr)], r3, r4, fun stn scr hw => ?_⟩
        obtain ⟨c0, b1, c, U, b2, b3, b4⟩ := r5 stn scr hw
        refine ⟨c0, b1, c, U, ?_, b3, fun l l1 l2 => by omega⟩
        rcases Nat.lt_or_ge r 64 with q2 | q2
        · rcases ck_step hw hp b3 r1 q2 (show k < w.1 by omega) with ⟨_, g2⟩ | ⟨l, v, g1, g2, g3, _⟩
          · rw [b2, lpv_in g2]
          · omega
        · rw [b2, r76_out hw r1 (by omega) (Or.inl (by omega)), r76_out hw r1 hk (Or.inl (by omega))]
  obtain ⟨x, T, r, r1, r2, r3, r4, r5⟩ := P w.1 (Nat.le_refl _)
  refine ⟨r, x, ?_, r3, fun stn scr hw => ?_⟩
  · unfold f_X12_rankOf
    rw [a1, ob_s, r2, r65_out (h.kp r3) r1 (Nat.le_refl _) (Or.inr rfl), ob_s]
  · obtain ⟨c0, b1, c, U, b2, b3, b4⟩ := r5 stn scr hw
    refine ⟨c, ?_⟩
    unfold f_X4_rankOver
    rw [if_neg (show ¬ nI p = 2 from nI_neq (b := 2) (by omega) (by decide) hp2), b1, ob_s, b2, r76_out hw r1 (Nat.le_refl _) (Or.inr rfl), ob_s]
end RKO
