section N2
variable {l : Launch} {G : mG} {ow : Nat → Nat} {m : mM} {qt : Nat → Nat} {s : Wst} {tp : Nat → Int32} {hd : Nat} {wr wa : Int32} {ic : Nat → Option Wd} {tc : Nat → Option (Nat × List Int64)} {F S : Nat → Prop}
theorem n_X11_image (hst : l.stackTraces = false) (N : NT G ow m qt s tp hd wr wa ic tc F) {i : Int32} : xQ l G yX11_image cX11_image 3 none rm_X11_image [.ref (qt 10), .int i] m (mQv G (fun m' => ∃ j, i = nI j ∧ j < 3 ∧ NTP G ow m F m' qt s tp hd wr wa (va_up ic j (some s.1)) tc)) (fun E m' => E = exN 0 ∧ (i < 0 ∨ ¬ i < 3) ∧ m' = m) := by
  obtain ⟨qn, qd, qh, S, xi, xt, fi, ft, qr, qm, qc, qw, qk, qu, str, stm, stc, stw, stk, stu, hC, ⟨a1, a2, a3, a4⟩, ⟨b1, b2, b3⟩, ⟨c1, c2, c3, c4, c5, c6⟩, ⟨d1, d2, d3, d4, d5⟩, rfl⟩ := N
  obtain ⟨stt, stn, std, fb, fa, bs, as, hT, hn, hw, -, hS, hbw, haw, -, hk9, hSS⟩ := id hC
  have hSn : S (qn 5) := by rw [hSS]; exact Or.inr (Or.inl rfl)
  refine (c_X11_image hst hT hn hk9.1 a1 a2 (fun j z => a4 j _ z hSn) (i := i)).mono (mQv.mono (fun m' ⟨j, ow1, fi1, h1, h2, h3, h4, ⟨q, st, h5, h6, h7⟩, h8, h9⟩ => ⟨j, h1, h2, ?_⟩)) (fun _ _ z => z)
  have hTr : ∀ {L : LY} {q : Nat → Nat} {st : OS}, At G ow m L q st → L.1 ≠ LX10.1 → ¬ (q L.2.1 = xi ∨ fi j = some (q L.2.1)) := fun hA hn z => by
    rcases z with z | z
    · exact hA.neC a2.1 z
    · obtain ⟨q2, st2, e, hA2⟩ := a2.2.1 _ _ z
      exact hA2.ne hA hn.symm e
  have hSF : ∀ r, S r → ¬ (r = xi ∨ fi j = some r) := fun r hr z => by
    rcases z with z | z
    · exact hC.notSC a2.1 (by decide) (z ▸ hr)
    · exact a4 _ _ z hr
  have hft : ∀ k a, ft k = some a → ¬ (a = xi ∨ fi j = some a) := fun k a hk z => by
    obtain ⟨q2, st2, e, hA2⟩ := b2.2.1 k a hk
    exact hTr hA2 (by decide) (by rw [e]; exact z)
  have hxt : ¬ (xt = xi ∨ fi j = some xt) := fun z => by
    rcases z with z | z
    · have := b2.1.1
      rw [z, a2.1.1] at this
      injection this with this
      injection this with this
      injection this with _ this
      injection this with this _
      exact absurd this (by decide)
    · obtain ⟨q2, st2, e, hA2⟩ := a2.2.1 _ _ z
      exact hA2.neC b2.1 e
  refine ⟨ow1, _, ⟨qn, qd, qh, S, xi, xt, fi1, ft, qr, qm, qc, qw, qk, qu, str, stm, stc, stw, stk, stu, hC.frA h8 hSF (hTr hT (by decide)), ⟨a1, h3, ⟨fun k hk => ?_, fun k a hk => ?_⟩, fun k a hk hS2 => ?_⟩, ⟨b1, b2.frA h8 hxt hft, b3.frA h8 hft⟩, ⟨h8.1 _ _ _ (hTr c1 (by decide)) c1, h8.1 _ _ _ (hTr c2 (by decide)) c2, c3, c4, c5, c6⟩, ⟨h8.1 _ _ _ (hTr d1 (by decide)) d1, h8.1 _ _ _ (hTr d2 (by decide)) d2, h8.1 _ _ _ (hTr d3 (by decide)) d3, h8.1 _ _ _ (hTr d4 (by decide)) d4, d5⟩, rfl⟩, h8.mono (fun a z => ?_), fun r z => ?_⟩
  · by_cases hkj : k = j
    · subst hkj; rw [h5] at hk; cases hk
    · rw [h4 k hkj] at hk
      simp only [va_up, if_neg hkj]
      exact a3.1 k hk
  · by_cases hkj : k = j
    · subst hkj
      rw [h5] at hk
      cases hk
      exact ⟨q, st, s.1, by simp only [va_up, if_true], rfl, h6, hw.same h7⟩
    · rw [h4 k hkj] at hk
      obtain ⟨qy, sty, w, e1, e2, e3, e4⟩ := a3.2 k a hk
      refine ⟨qy, sty, w, by simp only [va_up, if_neg hkj]; exact e1, e2, h8.1 _ _ _ ?_ e3, e4⟩
      intro z
      rcases z with z | z
      · exact e3.neC a2.1 z
      · exact hkj (a2.2.2 _ _ _ hk (by rw [show qy LX10.2.1 = a from e2] at z; exact z))
  · by_cases hkj : k = j
    · subst hkj
      rcases h9 a hk with z | z
      · exact a4 _ _ z hS2
      · exact hC.alive hS2 z
    · rw [h4 k hkj] at hk
      exact a4 _ _ hk hS2
  · rcases z with z | z
    · exact Or.inr (Or.inr (Or.inl z))
    · exact Or.inr (Or.inr (Or.inr (Or.inl ⟨j, z⟩)))
  · rcases z with z | z | z | ⟨k, z⟩ | z
    · exact Or.inl (Or.inl z)
    · exact Or.inl (Or.inr (Or.inl z))
    · exact Or.inl (Or.inr (Or.inr (Or.inl z)))
    · by_cases hkj : k = j
      · subst hkj
        rcases h9 r z with y | y
        · exact Or.inl (Or.inr (Or.inr (Or.inr (Or.inl ⟨k, y⟩))))
        · exact Or.inr y
      · rw [h4 k hkj] at z
        exact Or.inl (Or.inr (Or.inr (Or.inr (Or.inl ⟨k, z⟩))))
    · exact Or.inl (Or.inr (Or.inr (Or.inr (Or.inr z))))
theorem n_X11_tray (hst : l.stackTraces = false) (N : NT G ow m qt s tp hd wr wa ic tc F) {i so n : Int32} : xQ l G yX11_tray cX11_tray 5 none rm_X11_tray [.ref (qt 10), .int i, .int so, .int n] m (mQv G (fun m' => ∃ j so' n', i = nI j ∧ j < 4 ∧ so = nI so' ∧ so' ≤ 3 ∧ n = nI n' ∧ n' ≤ 40 ∧ NTP G ow m F m' qt s tp hd wr wa ic (va_up tc j (some (so', List.replicate n' 0))))) (fun E m' => ((E = exN 0 ∧ (i < 0 ∨ ¬ i < 4)) ∨ (E = exN 1 ∧ ¬ i < 0 ∧ i < 4 ∧ (so < 0 ∨ 3 < so ∨ n < 0 ∨ ¬ n ≤ 40))) ∧ m' = m) := by
  obtain ⟨qn, qd, qh, S, xi, xt, fi, ft, qr, qm, qc, qw, qk, qu, str, stm, stc, stw, stk, stu, hC, ⟨a1, a2, a3, a4⟩, ⟨b1, b2, b3⟩, ⟨c1, c2, c3, c4, c5, c6⟩, ⟨d1, d2, d3, d4, d5⟩, rfl⟩ := N
  obtain ⟨stt, stn, std, fb, fa, bs, as, hT, hn, hw, -, hS, hbw, haw, -, hk9, hSS⟩ := id hC
  have hF9 : ∀ st, ∃ x, f_X7_becomeEmpty st so n = some x := fun st => by
    unfold f_X7_becomeEmpty
    rw [min_J9]
    exact ⟨_, rfl⟩
  refine (c_X11_tray hst hT b1 b2 hF9 (i := i)).mono (mQv.mono (fun m' ⟨j, ow1, ft1, h1, h2, s1, s2, n1, n2, h3, h4, ⟨q, st, x, h5, h6, h7⟩, h8, h9⟩ => ?_)) (fun _ _ z => z)
  obtain ⟨so', hso, rfl⟩ : ∃ k, k ≤ 3 ∧ so = nI k := nI_of2 (by decide) s1 (Int32.not_lt.mp s2)
  obtain ⟨n', hn', rfl⟩ : ∃ k, k ≤ 40 ∧ n = nI k := nI_of2 (by decide) n1 n2
  obtain ⟨x2, e2, hx2⟩ := empty_7 st hso hn'
  rw [h6] at e2
  cases e2
  refine ⟨j, so', n', h1, h2, rfl, hso, rfl, hn', ?_⟩
  have hTr : ∀ {L : LY} {q : Nat → Nat} {st : OS}, At G ow m L q st → L.1 ≠ LX7.1 → ¬ (q L.2.1 = xt ∨ ft j = some (q L.2.1)) := fun hA hn z => by
    rcases z with z | z
    · exact hA.neC b2.1 z
    · obtain ⟨q2, st2, e, hA2⟩ := b2.2.1 _ _ z
      exact hA2.ne hA hn.symm e
  have hSF : ∀ r, S r → ¬ (r = xt ∨ ft j = some r) := fun r hr z => by
    rcases z with z | z
    · exact hC.notSC b2.1 (by decide) (z ▸ hr)
    · obtain ⟨q2, st2, e, hA2⟩ := b2.2.1 _ _ z
      exact hC.notS hA2 (by decide) (by decide) (by rw [e]; exact hr)
  have hfi : ∀ k a, fi k = some a → ¬ (a = xt ∨ ft j = some a) := fun k a hk z => by
    obtain ⟨q2, st2, e, hA2⟩ := a2.2.1 k a hk
    exact hTr hA2 (by decide) (by rw [e]; exact z)
  have hxi : ¬ (xi = xt ∨ ft j = some xi) := fun z => by
    rcases z with z | z
    · have := b2.1.1
      rw [← z, a2.1.1] at this
      injection this with this
      injection this with this
      injection this with _ this
      injection this with this _
      exact absurd this (by decide)
    · obtain ⟨q2, st2, e, hA2⟩ := b2.2.1 _ _ z
      exact hA2.neC a2.1 e
  refine ⟨ow1, _, ⟨qn, qd, qh, S, xi, xt, fi, ft1, qr, qm, qc, qw, qk, qu, str, stm, stc, stw, stk, stu, hC.frA h8 hSF (hTr hT (by decide)), ⟨a1, a2.frA h8 hxi hfi, a3.frA h8 hfi, a4⟩, ⟨b1, h3, ⟨fun k hk => ?_, fun k a hk => ?_⟩⟩, ⟨h8.1 _ _ _ (hTr c1 (by decide)) c1, h8.1 _ _ _ (hTr c2 (by decide)) c2, c3, c4, c5, c6⟩, ⟨h8.1 _ _ _ (hTr d1 (by decide)) d1, h8.1 _ _ _ (hTr d2 (by decide)) d2, h8.1 _ _ _ (hTr d3 (by decide)) d3, h8.1 _ _ _ (hTr d4 (by decide)) d4, d5⟩, rfl⟩, h8.mono (fun a z => ?_), fun r z => ?_⟩
  · by_cases hkj : k = j
    · subst hkj; rw [h5] at hk; cases hk
    · rw [h4 k hkj] at hk
      simp only [va_up, if_neg hkj]
      exact b3.1 k hk
  · by_cases hkj : k = j
    · subst hkj
      rw [h5] at hk
      cases hk
      exact ⟨q, x, so', _, by simp only [va_up, if_true], rfl, h7, hx2⟩
    · rw [h4 k hkj] at hk
      obtain ⟨qy, sty, so2, row, e1, e2, e3, e4⟩ := b3.2 k a hk
      refine ⟨qy, sty, so2, row, by simp only [va_up, if_neg hkj]; exact e1, e2, h8.1 _ _ _ ?_ e3, e4⟩
      intro z
      rcases z with z | z
      · exact e3.neC b2.1 z
      · exact hkj (b2.2.2 _ _ _ hk (by rw [show qy LX7.2.1 = a from e2] at z; exact z))
  · rcases z with z | z
    · exact Or.inr (Or.inr (Or.inr (Or.inr (Or.inl z))))
    · exact Or.inr (Or.inr (Or.inr (Or.inr (Or.inr (Or.inl ⟨j, z⟩)))))
  · rcases z with z | z | z | z | z | ⟨k, z⟩ | z
    · exact Or.inl (Or.inl z)
    · exact Or.inl (Or.inr (Or.inl z))
    · exact Or.inl (Or.inr (Or.inr (Or.inl z)))
    · exact Or.inl (Or.inr (Or.inr (Or.inr (Or.inl z))))
    · exact Or.inl (Or.inr (Or.inr (Or.inr (Or.inr (Or.inl z)))))
    · by_cases hkj : k = j
      · subst hkj
        rcases h9 r z with y | y
        · exact Or.inl (Or.inr (Or.inr (Or.inr (Or.inr (Or.inr (Or.inl ⟨k, y⟩))))))
        · exact Or.inr y
      · rw [h4 k hkj] at z
        exact Or.inl (Or.inr (Or.inr (Or.inr (Or.inr (Or.inr (Or.inl ⟨k, z⟩))))))
    · exact Or.inl (Or.inr (Or.inr (Or.inr (Or.inr (Or.inr (Or.inr z))))))
end N2
