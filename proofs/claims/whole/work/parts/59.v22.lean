/-! questions: cap: the answers -/
noncomputable def capF (N : Nat → Int64) : Nat → Int64 → Int64 → Int64
  | 0, _, T => T
  | k + 1, S, T => if tb S k = true then (if al N (dl S k) < al N S then capF N k (fr N S k) (T ||| bit1 k) else capF N k (dl S k) T) else capF N k S T
theorem dec_n (j : Nat) : nI j + (-1) = nI j - 1 := (Int32.sub_eq_add_neg _ _).symm
theorem dec_s (j : Nat) : nI (j + 1) - 1 = nI j := pk_sub (a := j + 1) (b := 1) (by omega)
section CAQ
variable {st stn : OS} {w : Wd}
theorem cap_step {S : Int64} {j : Nat} (hb : tb S j = true) (h : al (nearF w.2) (dl S j) < al (nearF w.2) S) : al (nearF w.2) S = 1 + al (nearF w.2) (fr (nearF w.2) S j) := by
  have h2 := al_br (nb_near w.2) hb
  unfold mxN at h2
  split at h2 <;> omega
theorem most_60 (hw : CW stn w) (n : Nat) (S : Int64) (h1 : pcn S < n) (h2 : pcn S ≤ 27) (hS : ∀ i, tb S i = true → i < w.1) : f_X6_mostUnjoined n stn S 0 = some (nI (al (nearF w.2) S)) := by
  have h := most_6 hw n S 0 h1 (by omega) hS
  rw [show nI 0 = (0 : Int32) from rfl] at h
  exact h
theorem cap_6 (hw : CW stn w) (h27 : w.1 ≤ 27) : ∀ (k : Nat) (S T : Int64), k ≤ w.1 → (∀ i, tb S i = true → i < w.1) → pcn S ≤ 27 → lpv (f_X6_greatestCap_39 stn) (nI (al (nearF w.2) S), S, T, nI k - 1) = some (capF (nearF w.2) k S T) := by
  intro k
  induction k with
  | zero =>
    intro S T _ _ _
    apply lpv_out
    unfold f_X6_greatestCap_39
    generalize f_X6_mostUnjoined 40 = g
    dsimp only
    rw [if_pos (show nI 0 - 1 < 0 by decide)]
    rfl
  | succ j ih =>
    intro S T hk hS hp
    rw [dec_s]
    have h1 := al_le (nearF w.2) S
    cases hb : tb S j with
    | false =>
      have hst : f_X6_greatestCap_39 stn (nI (al (nearF w.2) S), S, T, nI j) = some (.inl (nI (al (nearF w.2) S), S, T, nI j - 1)) := by
        unfold f_X6_greatestCap_39
        generalize f_X6_mostUnjoined 40 = g
        dsimp only
        rw [if_neg (nI_pos (by omega)), has_10 (by omega), ob_s, hb, if_pos b2f]
        simp only [bnd, dec_n]
      rw [lpv_in hst, ih S T (by omega) hS hp]
      simp only [capF]
      rw [hb, if_neg (by decide)]
    | true =>
      have hj64 := tb_lt hb
      have d1 := dl_lt hb
      have d2 := fr_lt (N := nearF w.2) hb
      have dS : ∀ i, tb (dl S j) i = true → i < w.1 := fun i hi => hS i (dl_sb hj64 hi)
      have fS : ∀ i, tb (fr (nearF w.2) S j) i = true → i < w.1 := fun i hi => hS i (fr_sb hj64 hi)
      have hm := most_60 hw 40 (dl S j) (by omega) (by omega) dS
      have h2 := al_le (nearF w.2) (dl S j)
      have h3 := al_dl (N := nearF w.2) hb
      have hst : f_X6_greatestCap_39 stn (nI (al (nearF w.2) S), S, T, nI j) = if al (nearF w.2) S ≤ al (nearF w.2) (dl S j) then some (.inl (nI (al (nearF w.2) S), dl S j, T, nI j - 1)) else some (.inl (nI (al (nearF w.2) S) + (-1), fr (nearF w.2) S j, T ||| bit1 j, nI j - 1)) := by
        unfold f_X6_greatestCap_39
        generalize f_X6_mostUnjoined 40 = g at hm ⊢
        unfold fr
        unfold dl at hm ⊢
        simp only [bnd]
        rw [if_neg (nI_pos (by omega)), has_10 (by omega), ob_s, hb, if_neg b2t, sh1 hj64, hm, ob_s, nearAt_10 hw (by omega), ob_s, dec_n]
        unfold dl at h2 h3
        have hp64 := pcn_le S
        generalize S &&& (bit1 j ^^^ (-1)) = D at *
        generalize al (nearF w.2) S = A at *
        generalize al (nearF w.2) D = B at *
        by_cases c : A ≤ B
        · rw [if_pos c, if_pos (nI_le c (by omega))]
        · rw [if_neg c, if_neg (nI_ge (by omega) (by omega))]
      simp only [capF]
      rw [hb, if_pos rfl]
      by_cases c : al (nearF w.2) S ≤ al (nearF w.2) (dl S j)
      · rw [if_pos c] at hst
        rw [lpv_in hst, if_neg (show ¬ al (nearF w.2) (dl S j) < al (nearF w.2) S by omega), show al (nearF w.2) S = al (nearF w.2) (dl S j) by omega]
        exact ih _ _ (by omega) dS (by omega)
      · have hs := cap_step hb (show al (nearF w.2) (dl S j) < al (nearF w.2) S by omega)
        rw [if_neg c] at hst
        rw [lpv_in hst, if_pos (show al (nearF w.2) (dl S j) < al (nearF w.2) S by omega), hs, dec_n, Nat.add_comm 1, dec_s]
        exact ih _ _ (by omega) fS (by omega)
theorem cap_44 {y : OS} (hy : RN y w) (h27 : w.1 ≤ 27) : ∀ (k : Nat) (S T : Int64), k ≤ w.1 → (∀ i, tb S i = true → i < w.1) → pcn S ≤ 27 → lpv (f_X12_cap_44 y) (S, T, nI (al (nearF w.2) S), nI k - 1) = some (capF (nearF w.2) k S T) := by
  intro k
  induction k with
  | zero =>
    intro S T _ _ _
    apply lpv_out
    unfold f_X12_cap_44
    generalize f_X12_mostApart 40 = g
    dsimp only
    rw [if_pos (show nI 0 - 1 < 0 by decide)]
    rfl
  | succ j ih =>
    intro S T hk hS hp
    rw [dec_s]
    have h1 := al_le (nearF w.2) S
    cases hb : tb S j with
    | false =>
      have hst : f_X12_cap_44 y (S, T, nI (al (nearF w.2) S), nI j) = some (.inl (S, T, nI (al (nearF w.2) S), nI j - 1)) := by
        unfold f_X12_cap_44
        generalize f_X12_mostApart 40 = g
        dsimp only
        rw [if_neg (nI_pos (by omega)), has_12 (by omega), ob_s, hb, if_pos b2f]
        simp only [bnd, dec_n]
      rw [lpv_in hst, ih S T (by omega) hS hp]
      simp only [capF]
      rw [hb, if_neg (by decide)]
    | true =>
      have hj64 := tb_lt hb
      have d1 := dl_lt hb
      have d2 := fr_lt (N := nearF w.2) hb
      have dS : ∀ i, tb (dl S j) i = true → i < w.1 := fun i hi => hS i (dl_sb hj64 hi)
      have fS : ∀ i, tb (fr (nearF w.2) S j) i = true → i < w.1 := fun i hi => hS i (fr_sb hj64 hi)
      have hm := apart_12 hy 40 (dl S j) (by omega) dS
      have h2 := al_le (nearF w.2) (dl S j)
      have h3 := al_dl (N := nearF w.2) hb
      have hst : f_X12_cap_44 y (S, T, nI (al (nearF w.2) S), nI j) = if al (nearF w.2) (dl S j) = al (nearF w.2) S then some (.inl (dl S j, T, nI (al (nearF w.2) S), nI j - 1)) else some (.inl (fr (nearF w.2) S j, T ||| bit1 j, nI (al (nearF w.2) S) + (-1), nI j - 1)) := by
        unfold f_X12_cap_44
        generalize f_X12_mostApart 40 = g at hm ⊢
        have hp64 := pcn_le S
        unfold fr
        unfold dl at hm ⊢
        simp only [bnd]
        rw [if_neg (nI_pos (by omega)), has_12 (by omega), ob_s, hb, if_neg b2t, bit_12 hj64, ob_s, hm, ob_s, ob_s, nI_clamp (by omega), hy.2 j (by omega), dec_n, if_pos (inb_t (by omega) (by omega))]
        unfold dl at h2 h3
        generalize S &&& (bit1 j ^^^ (-1)) = D at *
        generalize al (nearF w.2) S = A at *
        generalize al (nearF w.2) D = B at *
        by_cases c : B = A
        · rw [if_pos c, if_pos (by rw [c])]
        · rw [if_neg c, if_neg (nI_neq (by omega) (by omega) c)]
      simp only [capF]
      rw [hb, if_pos rfl]
      by_cases c : al (nearF w.2) (dl S j) = al (nearF w.2) S
      · rw [if_pos c] at hst
        rw [lpv_in hst, if_neg (show ¬ al (nearF w.2) (dl S j) < al (nearF w.2) S by omega), ← c]
        exact ih _ _ (by omega) dS (by omega)
      · have hs := cap_step hb (show al (nearF w.2) (dl S j) < al (nearF w.2) S by omega)
        rw [if_neg c] at hst
        rw [lpv_in hst, if_pos (show al (nearF w.2) (dl S j) < al (nearF w.2) S by omega), hs, dec_n, Nat.add_comm 1, dec_s]
        exact ih _ _ (by omega) fS (by omega)
theorem pcn_fst {n : Nat} (hn : n ≤ 64) : pcn (fst64 n) = n := by
  have e : pcn (fst64 n) = cnt (fun i => decide (i < n)) 64 := cnt_cong (fun i _ => tb_fst64 hn i)
  rw [e, cnt_below hn]
theorem q_cap (h : RWo st w.1 w.2) : ∃ k, (∀ stt stn, CW stn w → f_X11_cap stt stn = some k) ∧ ∃ x, f_X12_cap st = some (k, x) ∧ Kt st x := by
  have h0 := h.th 0
  have hn := h.2.2.1
  by_cases h27 : w.1 ≤ 27
  · have hpc := pcn_fst hn
    have hS : ∀ i, tb (fst64 w.1) i = true → i < w.1 := fun i hi => by
      rw [tb_fst64 hn] at hi
      exact of_decide_eq_true hi
    obtain ⟨x, ex, kx, hy⟩ := layN h0
    refine ⟨capF (nearF w.2) w.1 (fst64 w.1) 0, fun stt stn hw => ?_, x, ?_, Kt.p kx⟩
    · have hm := most_60 hw 40 (fst64 w.1) (by omega) (by omega) hS
      unfold f_X11_cap f_X6_greatestCap
      generalize f_X6_mostUnjoined 40 = g at hm ⊢
      rw [hw.1.1, if_pos (show nI w.1 ≤ (27 : Int32) from nI_le (b := 27) h27 (by decide)), all_10 hw.1]
      simp only [bnd, ob_s]
      rw [hm]
      simp only [ob_s]
      rw [cap_6 hw h27 w.1 (fst64 w.1) 0 (Nat.le_refl _) hS (by omega)]
      simp only [ob_s]
    · have hm := apart_12 hy 40 (fst64 w.1) (by omega) hS
      unfold f_X12_cap
      generalize f_X12_mostApart 40 = g at hm ⊢
      simp only [bnd]
      rw [h0.1, if_pos (show nI w.1 ≤ (27 : Int32) from nI_le (b := 27) h27 (by decide)), ex]
      simp only [ob_s]
      rw [all_12 hy.1]
      simp only [ob_s]
      rw [hm]
      simp only [ob_s]
      rw [hy.1.1, cap_44 hy h27 w.1 (fst64 w.1) 0 (Nat.le_refl _) hS (by omega)]
      simp only [ob_s]
  · refine ⟨-1, fun stt stn hw => ?_, oI st 2 0, ?_, Kt.thr 0⟩
    · unfold f_X11_cap f_X6_greatestCap
      rw [hw.1.1, if_neg (show ¬ nI w.1 ≤ (27 : Int32) from nI_ge (a := 27) (by omega) (by omega))]
      rfl
    · unfold f_X12_cap
      simp only [bnd]
      rw [h0.1, if_neg (show ¬ nI w.1 ≤ (27 : Int32) from nI_ge (a := 27) (by omega) (by omega))]
end CAQ
