section XQM
variable {l : Launch} {G : mG} {ow : Nat → Nat} {m : mM} {y : MethodName} {cb : ByteArray} {mL : Nat} {ret : Option FieldType} {rm : Room} {av : List Value} {Qc Qc' : Array Value → State → Outcome → State → Prop} {px px' : String → mM → Prop}
theorem xQ.mono (h : xQ l G y cb mL ret rm av m Qc px) (hQ : ∀ a s o t, Qc a s o t → Qc' a s o t) (hp : ∀ E m', px E m' → px' E m') : xQ l G y cb mL ret rm av m Qc' px' := by
  unfold xQ vx_Met at h ⊢
  refine MetFree.mono h (fun _ _ z => z) (fun _ _ _ _ _ z => z) (fun a s o t _ z => ?_)
  rcases z with z | ⟨q, e, E, ce, L, ⟨u, z4, z5⟩, z6⟩
  · exact Or.inl ⟨hQ a s o t z.1, z.2⟩
  · exact Or.inr ⟨q, e, E, ce, L, ⟨u, hp _ _ z4, z5⟩, z6⟩
variable {L1 L2 L3 L4 : LY} {q1 q2 q3 q4 : Nat → Nat} {s1 s2 s3 s4 : OS}
theorem xt3 (hA1 : At G ow m L1 q1 s1) (hA2 : At G ow m L2 q2 s2) (hA3 : At G ow m L3 q3 s3) (h : xQ l G y cb mL ret rm av (oset L1 G q1 s1 (oset L2 G q2 s2 (oset L3 G q3 s3 m))) Qc px) : xQ l G y cb mL ret rm av m Qc px := by rw [hA3.eq, hA2.eq, hA1.eq] at h; exact h
theorem xt4 (hA1 : At G ow m L1 q1 s1) (hA2 : At G ow m L2 q2 s2) (hA3 : At G ow m L3 q3 s3) (hA4 : At G ow m L4 q4 s4) (h : xQ l G y cb mL ret rm av (oset L1 G q1 s1 (oset L2 G q2 s2 (oset L3 G q3 s3 (oset L4 G q4 s4 m)))) Qc px) : xQ l G y cb mL ret rm av m Qc px := by rw [hA4.eq, hA3.eq, hA2.eq, hA1.eq] at h; exact h
theorem at4 (hA1 : At G ow m L1 q1 s1) (hA2 : At G ow m L2 q2 s2) (hA3 : At G ow m L3 q3 s3) (hA4 : At G ow m L4 q4 s4) (h : cQ l G y cb mL ret rm av (oset L1 G q1 s1 (oset L2 G q2 s2 (oset L3 G q3 s3 (oset L4 G q4 s4 m)))) Qc) : cQ l G y cb mL ret rm av m Qc := by rw [hA4.eq, hA3.eq, hA2.eq, hA1.eq] at h; exact h
theorem oap3 (h12 : odis L1 q1 L2 q2) (h13 : odis L1 q1 L3 q3) (h23 : odis L2 q2 L3 q3) : oap [(L1, q1), (L2, q2), (L3, q3)] :=
  oap_cons (fun x hx => by
    rcases List.mem_cons.mp hx with rfl | hx
    · exact h12
    · rcases List.mem_cons.mp hx with rfl | hx
      · exact h13
      · cases hx) (oap2 h23)
theorem oap4 (h12 : odis L1 q1 L2 q2) (h13 : odis L1 q1 L3 q3) (h14 : odis L1 q1 L4 q4) (h23 : odis L2 q2 L3 q3) (h24 : odis L2 q2 L4 q4) (h34 : odis L3 q3 L4 q4) : oap [(L1, q1), (L2, q2), (L3, q3), (L4, q4)] :=
  oap_cons (fun x hx => by
    rcases List.mem_cons.mp hx with rfl | hx
    · exact h12
    · rcases List.mem_cons.mp hx with rfl | hx
      · exact h13
      · rcases List.mem_cons.mp hx with rfl | hx
        · exact h14
        · cases hx) (oap3 h23 h24 h34)
end XQM
theorem n_X11_line {l : Launch} (hst : l.stackTraces = false) {G : mG} {ow : Nat → Nat} {m : mM} {qt : Nat → Nat} {s : Wst} {tp : Nat → Int32} {hd : Nat} {wr wa : Int32} {ic : Nat → Option Wd} {tc : Nat → Option (Nat × List Int64)} {F : Nat → Prop} (N : NT G ow m qt s tp hd wr wa ic tc F) {a0 : Int32} {k : Nat ⊕ Int64} (hk : ∀ (stt stn : OS), CW stn s.1 → f_X11_line stt stn a0 = some k) : xQ l G yX11_line cX11_line 2 (some FieldType.long) rm_X11_line [.ref (qt 10), .int a0] m (mQl G (fun r m' => k = .inr r ∧ NTP G ow m F m' qt s tp hd wr wa ic tc)) (fun E m' => (∃ j, k = .inl j ∧ E = exN j) ∧ m' = m) := by
  have N0 := N
  obtain ⟨qn, qd, qh, S, xi, xt, fi, ft, qr, qm, qc, qw, qk, qu, str, stm, stc, stw, stk, stu, hC, hA, hB, hc, hD, rfl⟩ := N
  obtain ⟨stt, stn, std, fb, fa, bs, as, hT, hn, hw, -, -, -, -, -, hk9, -⟩ := id hC
  have hy := hk stt stn hw
  refine (xt2 hT hn (c_X11_line hst hT.1 hn.1 (oap2 (hT.dis hn (hT.ne hn (by decide)))) hk9.1 hy)).mono (mQl.mono (fun r m' ⟨z, h1, h2, h3⟩ => ?_)) (fun E m' ⟨j, h1, h2, h3⟩ => ?_)
  · rw [hn.eq, hT.eq] at h3
    rw [h3, h2]
    exact ⟨h1, NTP.rf N0⟩
  · rw [hn.eq, hT.eq] at h3
    exact ⟨⟨j, h1, h2⟩, h3⟩
theorem n_X11_through {l : Launch} (hst : l.stackTraces = false) {G : mG} {ow : Nat → Nat} {m : mM} {qt : Nat → Nat} {s : Wst} {tp : Nat → Int32} {hd : Nat} {wr wa : Int32} {ic : Nat → Option Wd} {tc : Nat → Option (Nat × List Int64)} {F : Nat → Prop} (N : NT G ow m qt s tp hd wr wa ic tc F) {a0 : Int32} {k : Nat ⊕ Int64} (hk : ∀ (stt stn : OS), CW stn s.1 → f_X11_through stt stn a0 = some k) : xQ l G yX11_through cX11_through 2 (some FieldType.long) rm_X11_through [.ref (qt 10), .int a0] m (mQl G (fun r m' => k = .inr r ∧ NTP G ow m F m' qt s tp hd wr wa ic tc)) (fun E m' => (∃ j, k = .inl j ∧ E = exN j) ∧ m' = m) := by
  have N0 := N
  obtain ⟨qn, qd, qh, S, xi, xt, fi, ft, qr, qm, qc, qw, qk, qu, str, stm, stc, stw, stk, stu, hC, hA, hB, hc, hD, rfl⟩ := N
  obtain ⟨stt, stn, std, fb, fa, bs, as, hT, hn, hw, -, -, -, -, -, hk9, -⟩ := id hC
  have hy := hk stt stn hw
  refine (xt2 hT hn (c_X11_through hst hT.1 hn.1 (oap2 (hT.dis hn (hT.ne hn (by decide)))) hk9.1 hy)).mono (mQl.mono (fun r m' ⟨z, h1, h2, h3⟩ => ?_)) (fun E m' ⟨j, h1, h2, h3⟩ => ?_)
  · rw [hn.eq, hT.eq] at h3
    rw [h3, h2]
    exact ⟨h1, NTP.rf N0⟩
  · rw [hn.eq, hT.eq] at h3
    exact ⟨⟨j, h1, h2⟩, h3⟩
theorem n_X11_joined {l : Launch} (hst : l.stackTraces = false) {G : mG} {ow : Nat → Nat} {m : mM} {qt : Nat → Nat} {s : Wst} {tp : Nat → Int32} {hd : Nat} {wr wa : Int32} {ic : Nat → Option Wd} {tc : Nat → Option (Nat × List Int64)} {F : Nat → Prop} (N : NT G ow m qt s tp hd wr wa ic tc F) {a0 : Int32} {a1 : Int32} {k : Nat ⊕ Int32} (hk : ∀ (stt stn : OS), CW stn s.1 → f_X11_joined stt stn a0 a1 = some k) : xQ l G yX11_joined cX11_joined 3 (some FieldType.int) rm_X11_joined [.ref (qt 10), .int a0, .int a1] m (mQi G (fun r m' => k = .inr r ∧ NTP G ow m F m' qt s tp hd wr wa ic tc)) (fun E m' => (∃ j, k = .inl j ∧ E = exN j) ∧ m' = m) := by
  have N0 := N
  obtain ⟨qn, qd, qh, S, xi, xt, fi, ft, qr, qm, qc, qw, qk, qu, str, stm, stc, stw, stk, stu, hC, hA, hB, hc, hD, rfl⟩ := N
  obtain ⟨stt, stn, std, fb, fa, bs, as, hT, hn, hw, -, -, -, -, -, hk9, -⟩ := id hC
  have hy := hk stt stn hw
  refine (xt2 hT hn (c_X11_joined hst hT.1 hn.1 (oap2 (hT.dis hn (hT.ne hn (by decide)))) hk9.1 hy)).mono (mQi.mono (fun r m' ⟨z, h1, h2, h3⟩ => ?_)) (fun E m' ⟨j, h1, h2, h3⟩ => ?_)
  · rw [hn.eq, hT.eq] at h3
    rw [h3, h2]
    exact ⟨h1, NTP.rf N0⟩
  · rw [hn.eq, hT.eq] at h3
    exact ⟨⟨j, h1, h2⟩, h3⟩
theorem n_X11_near {l : Launch} (hst : l.stackTraces = false) {G : mG} {ow : Nat → Nat} {m : mM} {qt : Nat → Nat} {s : Wst} {tp : Nat → Int32} {hd : Nat} {wr wa : Int32} {ic : Nat → Option Wd} {tc : Nat → Option (Nat × List Int64)} {F : Nat → Prop} (N : NT G ow m qt s tp hd wr wa ic tc F) {a0 : Int32} {k : Nat ⊕ Int64} (hk : ∀ (stt stn : OS), CW stn s.1 → f_X11_near stt stn a0 = some k) : xQ l G yX11_near cX11_near 2 (some FieldType.long) rm_X11_near [.ref (qt 10), .int a0] m (mQl G (fun r m' => k = .inr r ∧ NTP G ow m F m' qt s tp hd wr wa ic tc)) (fun E m' => (∃ j, k = .inl j ∧ E = exN j) ∧ m' = m) := by
  have N0 := N
  obtain ⟨qn, qd, qh, S, xi, xt, fi, ft, qr, qm, qc, qw, qk, qu, str, stm, stc, stw, stk, stu, hC, hA, hB, hc, hD, rfl⟩ := N
  obtain ⟨stt, stn, std, fb, fa, bs, as, hT, hn, hw, -, -, -, -, -, hk9, -⟩ := id hC
  have hy := hk stt stn hw
  refine (xt2 hT hn (c_X11_near hst hT.1 hn.1 (oap2 (hT.dis hn (hT.ne hn (by decide)))) hk9.1 hy)).mono (mQl.mono (fun r m' ⟨z, h1, h2, h3⟩ => ?_)) (fun E m' ⟨j, h1, h2, h3⟩ => ?_)
  · rw [hn.eq, hT.eq] at h3
    rw [h3, h2]
    exact ⟨h1, NTP.rf N0⟩
  · rw [hn.eq, hT.eq] at h3
    exact ⟨⟨j, h1, h2⟩, h3⟩
theorem n_X11_across {l : Launch} (hst : l.stackTraces = false) {G : mG} {ow : Nat → Nat} {m : mM} {qt : Nat → Nat} {s : Wst} {tp : Nat → Int32} {hd : Nat} {wr wa : Int32} {ic : Nat → Option Wd} {tc : Nat → Option (Nat × List Int64)} {F : Nat → Prop} (N : NT G ow m qt s tp hd wr wa ic tc F) {a0 : Int64} {k : Nat ⊕ Int64} (hk : ∀ (stt stn : OS), CW stn s.1 → f_X11_across stt stn a0 = some k) : xQ l G yX11_across cX11_across 3 (some FieldType.long) rm_X11_across [.ref (qt 10), .long a0] m (mQl G (fun r m' => k = .inr r ∧ NTP G ow m F m' qt s tp hd wr wa ic tc)) (fun E m' => (∃ j, k = .inl j ∧ E = exN j) ∧ m' = m) := by
  have N0 := N
  obtain ⟨qn, qd, qh, S, xi, xt, fi, ft, qr, qm, qc, qw, qk, qu, str, stm, stc, stw, stk, stu, hC, hA, hB, hc, hD, rfl⟩ := N
  obtain ⟨stt, stn, std, fb, fa, bs, as, hT, hn, hw, -, -, -, -, -, hk9, -⟩ := id hC
  have hy := hk stt stn hw
  refine (xt2 hT hn (c_X11_across hst hT.1 hn.1 (oap2 (hT.dis hn (hT.ne hn (by decide)))) hk9.1 hy)).mono (mQl.mono (fun r m' ⟨z, h1, h2, h3⟩ => ?_)) (fun E m' ⟨j, h1, h2, h3⟩ => ?_)
  · rw [hn.eq, hT.eq] at h3
    rw [h3, h2]
    exact ⟨h1, NTP.rf N0⟩
  · rw [hn.eq, hT.eq] at h3
    exact ⟨⟨j, h1, h2⟩, h3⟩
theorem n_X11_spanned {l : Launch} (hst : l.stackTraces = false) {G : mG} {ow : Nat → Nat} {m : mM} {qt : Nat → Nat} {s : Wst} {tp : Nat → Int32} {hd : Nat} {wr wa : Int32} {ic : Nat → Option Wd} {tc : Nat → Option (Nat × List Int64)} {F : Nat → Prop} (N : NT G ow m qt s tp hd wr wa ic tc F) {a0 : Int64} {k : Nat ⊕ Int64} (hk : ∀ (stt stn : OS), CW stn s.1 → f_X11_spanned stt stn a0 = some k) : xQ l G yX11_spanned cX11_spanned 3 (some FieldType.long) rm_X11_spanned [.ref (qt 10), .long a0] m (mQl G (fun r m' => k = .inr r ∧ NTP G ow m F m' qt s tp hd wr wa ic tc)) (fun E m' => (∃ j, k = .inl j ∧ E = exN j) ∧ m' = m) := by
  have N0 := N
  obtain ⟨qn, qd, qh, S, xi, xt, fi, ft, qr, qm, qc, qw, qk, qu, str, stm, stc, stw, stk, stu, hC, hA, hB, hc, hD, rfl⟩ := N
  obtain ⟨stt, stn, std, fb, fa, bs, as, hT, hn, hw, -, -, -, -, -, hk9, -⟩ := id hC
  have hy := hk stt stn hw
  refine (xt2 hT hn (c_X11_spanned hst hT.1 hn.1 (oap2 (hT.dis hn (hT.ne hn (by decide)))) hk9.1 hy)).mono (mQl.mono (fun r m' ⟨z, h1, h2, h3⟩ => ?_)) (fun E m' ⟨j, h1, h2, h3⟩ => ?_)
  · rw [hn.eq, hT.eq] at h3
    rw [h3, h2]
    exact ⟨h1, NTP.rf N0⟩
  · rw [hn.eq, hT.eq] at h3
    exact ⟨⟨j, h1, h2⟩, h3⟩
theorem n_X11_hyper {l : Launch} (hst : l.stackTraces = false) {G : mG} {ow : Nat → Nat} {m : mM} {qt : Nat → Nat} {s : Wst} {tp : Nat → Int32} {hd : Nat} {wr wa : Int32} {ic : Nat → Option Wd} {tc : Nat → Option (Nat × List Int64)} {F : Nat → Prop} (N : NT G ow m qt s tp hd wr wa ic tc F) {a0 : Int32} {a1 : Int32} {k : Nat ⊕ Int64} (hk : ∀ (stt stn : OS), CW stn s.1 → f_X11_hyper stt stn a0 a1 = some k) : xQ l G yX11_hyper cX11_hyper 3 (some FieldType.long) rm_X11_hyper [.ref (qt 10), .int a0, .int a1] m (mQl G (fun r m' => k = .inr r ∧ NTP G ow m F m' qt s tp hd wr wa ic tc)) (fun E m' => (∃ j, k = .inl j ∧ E = exN j) ∧ m' = m) := by
  have N0 := N
  obtain ⟨qn, qd, qh, S, xi, xt, fi, ft, qr, qm, qc, qw, qk, qu, str, stm, stc, stw, stk, stu, hC, hA, hB, hc, hD, rfl⟩ := N
  obtain ⟨stt, stn, std, fb, fa, bs, as, hT, hn, hw, -, -, -, -, -, hk9, -⟩ := id hC
  have hy := hk stt stn hw
  refine (xt2 hT hn (c_X11_hyper hst hT.1 hn.1 (oap2 (hT.dis hn (hT.ne hn (by decide)))) hk9.1 hy)).mono (mQl.mono (fun r m' ⟨z, h1, h2, h3⟩ => ?_)) (fun E m' ⟨j, h1, h2, h3⟩ => ?_)
  · rw [hn.eq, hT.eq] at h3
    rw [h3, h2]
    exact ⟨h1, NTP.rf N0⟩
  · rw [hn.eq, hT.eq] at h3
    exact ⟨⟨j, h1, h2⟩, h3⟩
theorem n_X11_regular {l : Launch} (hst : l.stackTraces = false) {G : mG} {ow : Nat → Nat} {m : mM} {qt : Nat → Nat} {s : Wst} {tp : Nat → Int32} {hd : Nat} {wr wa : Int32} {ic : Nat → Option Wd} {tc : Nat → Option (Nat × List Int64)} {F : Nat → Prop} (N : NT G ow m qt s tp hd wr wa ic tc F) {a0 : Int32} {a1 : Int32} {k : Nat ⊕ Int32} (hk : ∀ (stt stn : OS), CW stn s.1 → f_X11_regular stt stn a0 a1 = some k) : xQ l G yX11_regular cX11_regular 5 (some FieldType.boolean) rm_X11_regular [.ref (qt 10), .int a0, .int a1] m (mQi G (fun r m' => k = .inr r ∧ NTP G ow m F m' qt s tp hd wr wa ic tc)) (fun E m' => (∃ j, k = .inl j ∧ E = exN j) ∧ m' = m) := by
  have N0 := N
  obtain ⟨qn, qd, qh, S, xi, xt, fi, ft, qr, qm, qc, qw, qk, qu, str, stm, stc, stw, stk, stu, hC, hA, hB, hc, hD, rfl⟩ := N
  obtain ⟨stt, stn, std, fb, fa, bs, as, hT, hn, hw, -, -, -, -, -, hk9, -⟩ := id hC
  have hy := hk stt stn hw
  refine (xt2 hT hn (c_X11_regular hst hT.1 hn.1 (oap2 (hT.dis hn (hT.ne hn (by decide)))) hk9.1 hy)).mono (mQi.mono (fun r m' ⟨z, h1, h2, h3⟩ => ?_)) (fun E m' ⟨j, h1, h2, h3⟩ => ?_)
  · rw [hn.eq, hT.eq] at h3
    rw [h3, h2]
    exact ⟨h1, NTP.rf N0⟩
  · rw [hn.eq, hT.eq] at h3
    exact ⟨⟨j, h1, h2⟩, h3⟩
theorem n_X11_own {l : Launch} (hst : l.stackTraces = false) {G : mG} {ow : Nat → Nat} {m : mM} {qt : Nat → Nat} {s : Wst} {tp : Nat → Int32} {hd : Nat} {wr wa : Int32} {ic : Nat → Option Wd} {tc : Nat → Option (Nat × List Int64)} {F : Nat → Prop} (N : NT G ow m qt s tp hd wr wa ic tc F) {a0 : Int32} {a1 : Int32} {k : Nat ⊕ Int32} (hk : ∀ (stt stn : OS), CW stn s.1 → f_X11_own stt stn a0 a1 = some k) : xQ l G yX11_own cX11_own 3 (some FieldType.int) rm_X11_own [.ref (qt 10), .int a0, .int a1] m (mQi G (fun r m' => k = .inr r ∧ NTP G ow m F m' qt s tp hd wr wa ic tc)) (fun E m' => (∃ j, k = .inl j ∧ E = exN j) ∧ m' = m) := by
  have N0 := N
  obtain ⟨qn, qd, qh, S, xi, xt, fi, ft, qr, qm, qc, qw, qk, qu, str, stm, stc, stw, stk, stu, hC, hA, hB, hc, hD, rfl⟩ := N
  obtain ⟨stt, stn, std, fb, fa, bs, as, hT, hn, hw, -, -, -, -, -, hk9, -⟩ := id hC
  have hy := hk stt stn hw
  refine (xt2 hT hn (c_X11_own hst hT.1 hn.1 (oap2 (hT.dis hn (hT.ne hn (by decide)))) hk9.1 hy)).mono (mQi.mono (fun r m' ⟨z, h1, h2, h3⟩ => ?_)) (fun E m' ⟨j, h1, h2, h3⟩ => ?_)
  · rw [hn.eq, hT.eq] at h3
    rw [h3, h2]
    exact ⟨h1, NTP.rf N0⟩
  · rw [hn.eq, hT.eq] at h3
    exact ⟨⟨j, h1, h2⟩, h3⟩
theorem n_X11_law {l : Launch} {G : mG} {ow : Nat → Nat} {m : mM} {qt : Nat → Nat} {s : Wst} {tp : Nat → Int32} {hd : Nat} {wr wa : Int32} {ic : Nat → Option Wd} {tc : Nat → Option (Nat × List Int64)} {F : Nat → Prop} (N : NT G ow m qt s tp hd wr wa ic tc F)  {k : Int32} (hk : ∀ (stt stn : OS), CW stn s.1 → f_X11_law stt stn  = some k) : cQ l G yX11_law cX11_law 1 (some FieldType.int) rm_X11_law [.ref (qt 10)] m (mQi G (fun r m' => r = k ∧ NTP G ow m F m' qt s tp hd wr wa ic tc)) := by
  have N0 := N
  obtain ⟨qn, qd, qh, S, xi, xt, fi, ft, qr, qm, qc, qw, qk, qu, str, stm, stc, stw, stk, stu, hC, hA, hB, hc, hD, rfl⟩ := N
  obtain ⟨stt, stn, std, fb, fa, bs, as, hT, hn, hw, -, -, -, -, -, hk9, -⟩ := id hC
  have hy := hk stt stn hw
  refine (at2 hT hn (c_X11_law hT.1 hn.1 (oap2 (hT.dis hn (hT.ne hn (by decide)))) hk9.1 hy)).mono (mQi.mono (fun r m' ⟨h2, h3⟩ => ?_))
  rw [hn.eq, hT.eq] at h3
  rw [h3, h2]
  exact ⟨rfl, NTP.rf N0⟩
theorem n_X11_order {l : Launch} {G : mG} {ow : Nat → Nat} {m : mM} {qt : Nat → Nat} {s : Wst} {tp : Nat → Int32} {hd : Nat} {wr wa : Int32} {ic : Nat → Option Wd} {tc : Nat → Option (Nat × List Int64)} {F : Nat → Prop} (N : NT G ow m qt s tp hd wr wa ic tc F) {a0 : Int32} {k : Int32} (hk : ∀ (stt stn : OS), CW stn s.1 → f_X11_order stt stn a0 = some k) : cQ l G yX11_order cX11_order 2 (some FieldType.int) rm_X11_order [.ref (qt 10), .int a0] m (mQi G (fun r m' => r = k ∧ NTP G ow m F m' qt s tp hd wr wa ic tc)) := by
  have N0 := N
  obtain ⟨qn, qd, qh, S, xi, xt, fi, ft, qr, qm, qc, qw, qk, qu, str, stm, stc, stw, stk, stu, hC, hA, hB, hc, hD, rfl⟩ := N
  obtain ⟨stt, stn, std, fb, fa, bs, as, hT, hn, hw, -, -, -, -, -, hk9, -⟩ := id hC
  have hy := hk stt stn hw
  refine (at2 hT hn (c_X11_order hT.1 hn.1 (oap2 (hT.dis hn (hT.ne hn (by decide)))) hk9.1 hy)).mono (mQi.mono (fun r m' ⟨h2, h3⟩ => ?_))
  rw [hn.eq, hT.eq] at h3
  rw [h3, h2]
  exact ⟨rfl, NTP.rf N0⟩
theorem n_X11_meets {l : Launch} (hst : l.stackTraces = false) {G : mG} {ow : Nat → Nat} {m : mM} {qt : Nat → Nat} {s : Wst} {tp : Nat → Int32} {hd : Nat} {wr wa : Int32} {ic : Nat → Option Wd} {tc : Nat → Option (Nat × List Int64)} {F : Nat → Prop} (N : NT G ow m qt s tp hd wr wa ic tc F) {a0 : Int64} {a1 : Int32} {k : Nat ⊕ Int32} (hk : ∀ (stt stn : OS), CW stn s.1 → f_X11_meets stt stn a0 a1 = some k) : xQ l G yX11_meets cX11_meets 4 (some FieldType.int) rm_X11_meets [.ref (qt 10), .long a0, .int a1] m (mQi G (fun r m' => k = .inr r ∧ NTP G ow m F m' qt s tp hd wr wa ic tc)) (fun E m' => (∃ j, k = .inl j ∧ E = exN j) ∧ m' = m) := by
  have N0 := N
  obtain ⟨qn, qd, qh, S, xi, xt, fi, ft, qr, qm, qc, qw, qk, qu, str, stm, stc, stw, stk, stu, hC, hA, hB, hc, hD, rfl⟩ := N
  obtain ⟨stt, stn, std, fb, fa, bs, as, hT, hn, hw, -, -, -, -, -, hk9, -⟩ := id hC
  have hy := hk stt stn hw
  refine (xt2 hT hn (c_X11_meets hst hT.1 hn.1 (oap2 (hT.dis hn (hT.ne hn (by decide)))) hk9.1 hy)).mono (mQi.mono (fun r m' ⟨z, h1, h2, h3⟩ => ?_)) (fun E m' ⟨j, h1, h2, h3⟩ => ?_)
  · rw [hn.eq, hT.eq] at h3
    rw [h3, h2]
    exact ⟨h1, NTP.rf N0⟩
  · rw [hn.eq, hT.eq] at h3
    exact ⟨⟨j, h1, h2⟩, h3⟩
theorem n_X11_even {l : Launch} (hst : l.stackTraces = false) {G : mG} {ow : Nat → Nat} {m : mM} {qt : Nat → Nat} {s : Wst} {tp : Nat → Int32} {hd : Nat} {wr wa : Int32} {ic : Nat → Option Wd} {tc : Nat → Option (Nat × List Int64)} {F : Nat → Prop} (N : NT G ow m qt s tp hd wr wa ic tc F) {a0 : Int64} {k : Nat ⊕ Int32} (hk : ∀ (stt stn : OS), CW stn s.1 → f_X11_even stt stn a0 = some k) : xQ l G yX11_even cX11_even 3 (some FieldType.int) rm_X11_even [.ref (qt 10), .long a0] m (mQi G (fun r m' => k = .inr r ∧ NTP G ow m F m' qt s tp hd wr wa ic tc)) (fun E m' => (∃ j, k = .inl j ∧ E = exN j) ∧ m' = m) := by
  have N0 := N
  obtain ⟨qn, qd, qh, S, xi, xt, fi, ft, qr, qm, qc, qw, qk, qu, str, stm, stc, stw, stk, stu, hC, hA, hB, hc, hD, rfl⟩ := N
  obtain ⟨stt, stn, std, fb, fa, bs, as, hT, hn, hw, -, -, -, -, -, hk9, -⟩ := id hC
  have hy := hk stt stn hw
  refine (xt2 hT hn (c_X11_even hst hT.1 hn.1 (oap2 (hT.dis hn (hT.ne hn (by decide)))) hk9.1 hy)).mono (mQi.mono (fun r m' ⟨z, h1, h2, h3⟩ => ?_)) (fun E m' ⟨j, h1, h2, h3⟩ => ?_)
  · rw [hn.eq, hT.eq] at h3
    rw [h3, h2]
    exact ⟨h1, NTP.rf N0⟩
  · rw [hn.eq, hT.eq] at h3
    exact ⟨⟨j, h1, h2⟩, h3⟩
theorem n_X11_evens {l : Launch} {G : mG} {ow : Nat → Nat} {m : mM} {qt : Nat → Nat} {s : Wst} {tp : Nat → Int32} {hd : Nat} {wr wa : Int32} {ic : Nat → Option Wd} {tc : Nat → Option (Nat × List Int64)} {F : Nat → Prop} (N : NT G ow m qt s tp hd wr wa ic tc F) {a0 : Int32} {k : Int32} (hk : ∀ (stt stn : OS), CW stn s.1 → f_X11_evens stt stn a0 = some k) : cQ l G yX11_evens cX11_evens 2 (some FieldType.int) rm_X11_evens [.ref (qt 10), .int a0] m (mQi G (fun r m' => r = k ∧ NTP G ow m F m' qt s tp hd wr wa ic tc)) := by
  have N0 := N
  obtain ⟨qn, qd, qh, S, xi, xt, fi, ft, qr, qm, qc, qw, qk, qu, str, stm, stc, stw, stk, stu, hC, hA, hB, hc, hD, rfl⟩ := N
  obtain ⟨stt, stn, std, fb, fa, bs, as, hT, hn, hw, -, -, -, -, -, hk9, -⟩ := id hC
  have hy := hk stt stn hw
  refine (at2 hT hn (c_X11_evens hT.1 hn.1 (oap2 (hT.dis hn (hT.ne hn (by decide)))) hk9.1 hy)).mono (mQi.mono (fun r m' ⟨h2, h3⟩ => ?_))
  rw [hn.eq, hT.eq] at h3
  rw [h3, h2]
  exact ⟨rfl, NTP.rf N0⟩
theorem n_X11_tight {l : Launch} (hst : l.stackTraces = false) {G : mG} {ow : Nat → Nat} {m : mM} {qt : Nat → Nat} {s : Wst} {tp : Nat → Int32} {hd : Nat} {wr wa : Int32} {ic : Nat → Option Wd} {tc : Nat → Option (Nat × List Int64)} {F : Nat → Prop} (N : NT G ow m qt s tp hd wr wa ic tc F) {a0 : Int64} {k : Nat ⊕ Int32} (hk : ∀ (stt stn : OS), CW stn s.1 → f_X11_tight stt stn a0 = some k) : xQ l G yX11_tight cX11_tight 3 (some FieldType.int) rm_X11_tight [.ref (qt 10), .long a0] m (mQi G (fun r m' => k = .inr r ∧ NTP G ow m F m' qt s tp hd wr wa ic tc)) (fun E m' => (∃ j, k = .inl j ∧ E = exN j) ∧ m' = m) := by
  have N0 := N
  obtain ⟨qn, qd, qh, S, xi, xt, fi, ft, qr, qm, qc, qw, qk, qu, str, stm, stc, stw, stk, stu, hC, hA, hB, hc, hD, rfl⟩ := N
  obtain ⟨stt, stn, std, fb, fa, bs, as, hT, hn, hw, -, -, -, -, -, hk9, -⟩ := id hC
  have hy := hk stt stn hw
  refine (xt2 hT hn (c_X11_tight hst hT.1 hn.1 (oap2 (hT.dis hn (hT.ne hn (by decide)))) hk9.1 hy)).mono (mQi.mono (fun r m' ⟨z, h1, h2, h3⟩ => ?_)) (fun E m' ⟨j, h1, h2, h3⟩ => ?_)
  · rw [hn.eq, hT.eq] at h3
    rw [h3, h2]
    exact ⟨h1, NTP.rf N0⟩
  · rw [hn.eq, hT.eq] at h3
    exact ⟨⟨j, h1, h2⟩, h3⟩
theorem n_X11_ovoid {l : Launch} {G : mG} {ow : Nat → Nat} {m : mM} {qt : Nat → Nat} {s : Wst} {tp : Nat → Int32} {hd : Nat} {wr wa : Int32} {ic : Nat → Option Wd} {tc : Nat → Option (Nat × List Int64)} {F : Nat → Prop} (N : NT G ow m qt s tp hd wr wa ic tc F)  {k : Int64} (hk : ∀ (stt stn scr : OS), CW stn s.1 → ∃ x, f_X11_ovoid stt stn scr  = some ((k, x))) : cQ l G yX11_ovoid cX11_ovoid 1 (some FieldType.long) rm_X11_ovoid [.ref (qt 10)] m (mQl G (fun r m' => r = k ∧ NTP G ow m F m' qt s tp hd wr wa ic tc)) := by
  obtain ⟨qn, qd, qh, S, xi, xt, fi, ft, qr, qm, qc, qw, qk, qu, str, stm, stc, stw, stk, stu, hC, hA, hB, hc, hD, rfl⟩ := N
  obtain ⟨stt, stn, std, fb, fa, bs, as, hT, hn, hw, -, -, -, -, -, hk9, -⟩ := id hC
  obtain ⟨y, hy⟩ := hk stt stn stc hw
  have hs := hD.1
  have hT1 := (hs.fA (x := y)).1 _ _ _ (hT.ne hs (by decide)) hT
  have hn1 := (hs.fA (x := y)).1 _ _ _ (hn.ne hs (by decide)) hn
  refine (at3 hT hn hs (c_X11_ovoid hT.1 hn.1 hs.1 (oap3 (hT.dis hn (hT.ne hn (by decide))) (hT.dis hs (hT.ne hs (by decide))) (hn.dis hs (hn.ne hs (by decide)))) hk9.1 hD.2.2.2.2.1 hy)).mono (mQl.mono (fun r m' ⟨h2, h3⟩ => ?_))
  rw [hn1.eq, hT1.eq] at h3
  rw [h3, h2]
  exact ⟨rfl, NT.sc_LX0 hC hA hB hc hD⟩
theorem n_X11_ovoids {l : Launch} {G : mG} {ow : Nat → Nat} {m : mM} {qt : Nat → Nat} {s : Wst} {tp : Nat → Int32} {hd : Nat} {wr wa : Int32} {ic : Nat → Option Wd} {tc : Nat → Option (Nat × List Int64)} {F : Nat → Prop} (N : NT G ow m qt s tp hd wr wa ic tc F)  {k : Int32} (hk : ∀ (stt stn scr : OS), CW stn s.1 → ∃ x, f_X11_ovoids stt stn scr  = some ((k, x))) : cQ l G yX11_ovoids cX11_ovoids 1 (some FieldType.int) rm_X11_ovoids [.ref (qt 10)] m (mQi G (fun r m' => r = k ∧ NTP G ow m F m' qt s tp hd wr wa ic tc)) := by
  obtain ⟨qn, qd, qh, S, xi, xt, fi, ft, qr, qm, qc, qw, qk, qu, str, stm, stc, stw, stk, stu, hC, hA, hB, hc, hD, rfl⟩ := N
  obtain ⟨stt, stn, std, fb, fa, bs, as, hT, hn, hw, -, -, -, -, -, hk9, -⟩ := id hC
  obtain ⟨y, hy⟩ := hk stt stn stc hw
  have hs := hD.1
  have hT1 := (hs.fA (x := y)).1 _ _ _ (hT.ne hs (by decide)) hT
  have hn1 := (hs.fA (x := y)).1 _ _ _ (hn.ne hs (by decide)) hn
  refine (at3 hT hn hs (c_X11_ovoids hT.1 hn.1 hs.1 (oap3 (hT.dis hn (hT.ne hn (by decide))) (hT.dis hs (hT.ne hs (by decide))) (hn.dis hs (hn.ne hs (by decide)))) hk9.1 hD.2.2.2.2.1 hy)).mono (mQi.mono (fun r m' ⟨h2, h3⟩ => ?_))
  rw [hn1.eq, hT1.eq] at h3
  rw [h3, h2]
  exact ⟨rfl, NT.sc_LX0 hC hA hB hc hD⟩
theorem n_X11_spread {l : Launch} {G : mG} {ow : Nat → Nat} {m : mM} {qt : Nat → Nat} {s : Wst} {tp : Nat → Int32} {hd : Nat} {wr wa : Int32} {ic : Nat → Option Wd} {tc : Nat → Option (Nat × List Int64)} {F : Nat → Prop} (N : NT G ow m qt s tp hd wr wa ic tc F)  {k : Int64} (hk : ∀ (stt stn scr : OS), CW stn s.1 → ∃ x, f_X11_spread stt stn scr  = some ((k, x))) : cQ l G yX11_spread cX11_spread 1 (some FieldType.long) rm_X11_spread [.ref (qt 10)] m (mQl G (fun r m' => r = k ∧ NTP G ow m F m' qt s tp hd wr wa ic tc)) := by
  obtain ⟨qn, qd, qh, S, xi, xt, fi, ft, qr, qm, qc, qw, qk, qu, str, stm, stc, stw, stk, stu, hC, hA, hB, hc, hD, rfl⟩ := N
  obtain ⟨stt, stn, std, fb, fa, bs, as, hT, hn, hw, -, -, -, -, -, hk9, -⟩ := id hC
  obtain ⟨y, hy⟩ := hk stt stn stc hw
  have hs := hD.1
  have hT1 := (hs.fA (x := y)).1 _ _ _ (hT.ne hs (by decide)) hT
  have hn1 := (hs.fA (x := y)).1 _ _ _ (hn.ne hs (by decide)) hn
  refine (at3 hT hn hs (c_X11_spread hT.1 hn.1 hs.1 (oap3 (hT.dis hn (hT.ne hn (by decide))) (hT.dis hs (hT.ne hs (by decide))) (hn.dis hs (hn.ne hs (by decide)))) hk9.1 hD.2.2.2.2.1 hy)).mono (mQl.mono (fun r m' ⟨h2, h3⟩ => ?_))
  rw [hn1.eq, hT1.eq] at h3
  rw [h3, h2]
  exact ⟨rfl, NT.sc_LX0 hC hA hB hc hD⟩
theorem n_X11_spreads {l : Launch} {G : mG} {ow : Nat → Nat} {m : mM} {qt : Nat → Nat} {s : Wst} {tp : Nat → Int32} {hd : Nat} {wr wa : Int32} {ic : Nat → Option Wd} {tc : Nat → Option (Nat × List Int64)} {F : Nat → Prop} (N : NT G ow m qt s tp hd wr wa ic tc F)  {k : Int32} (hk : ∀ (stt stn scr : OS), CW stn s.1 → ∃ x, f_X11_spreads stt stn scr  = some ((k, x))) : cQ l G yX11_spreads cX11_spreads 1 (some FieldType.int) rm_X11_spreads [.ref (qt 10)] m (mQi G (fun r m' => r = k ∧ NTP G ow m F m' qt s tp hd wr wa ic tc)) := by
  obtain ⟨qn, qd, qh, S, xi, xt, fi, ft, qr, qm, qc, qw, qk, qu, str, stm, stc, stw, stk, stu, hC, hA, hB, hc, hD, rfl⟩ := N
  obtain ⟨stt, stn, std, fb, fa, bs, as, hT, hn, hw, -, -, -, -, -, hk9, -⟩ := id hC
  obtain ⟨y, hy⟩ := hk stt stn stc hw
  have hs := hD.1
  have hT1 := (hs.fA (x := y)).1 _ _ _ (hT.ne hs (by decide)) hT
  have hn1 := (hs.fA (x := y)).1 _ _ _ (hn.ne hs (by decide)) hn
  refine (at3 hT hn hs (c_X11_spreads hT.1 hn.1 hs.1 (oap3 (hT.dis hn (hT.ne hn (by decide))) (hT.dis hs (hT.ne hs (by decide))) (hn.dis hs (hn.ne hs (by decide)))) hk9.1 hD.2.2.2.2.1 hy)).mono (mQi.mono (fun r m' ⟨h2, h3⟩ => ?_))
  rw [hn1.eq, hT1.eq] at h3
  rw [h3, h2]
  exact ⟨rfl, NT.sc_LX0 hC hA hB hc hD⟩
theorem n_X11_cap {l : Launch} {G : mG} {ow : Nat → Nat} {m : mM} {qt : Nat → Nat} {s : Wst} {tp : Nat → Int32} {hd : Nat} {wr wa : Int32} {ic : Nat → Option Wd} {tc : Nat → Option (Nat × List Int64)} {F : Nat → Prop} (N : NT G ow m qt s tp hd wr wa ic tc F)  {k : Int64} (hk : ∀ (stt stn : OS), CW stn s.1 → f_X11_cap stt stn  = some k) : cQ l G yX11_cap cX11_cap 1 (some FieldType.long) rm_X11_cap [.ref (qt 10)] m (mQl G (fun r m' => r = k ∧ NTP G ow m F m' qt s tp hd wr wa ic tc)) := by
  have N0 := N
  obtain ⟨qn, qd, qh, S, xi, xt, fi, ft, qr, qm, qc, qw, qk, qu, str, stm, stc, stw, stk, stu, hC, hA, hB, hc, hD, rfl⟩ := N
  obtain ⟨stt, stn, std, fb, fa, bs, as, hT, hn, hw, -, -, -, -, -, hk9, -⟩ := id hC
  have hy := hk stt stn hw
  refine (at2 hT hn (c_X11_cap hT.1 hn.1 (oap2 (hT.dis hn (hT.ne hn (by decide)))) hk9.1 hy)).mono (mQl.mono (fun r m' ⟨h2, h3⟩ => ?_))
  rw [hn.eq, hT.eq] at h3
  rw [h3, h2]
  exact ⟨rfl, NTP.rf N0⟩
theorem n_X11_triads {l : Launch} {G : mG} {ow : Nat → Nat} {m : mM} {qt : Nat → Nat} {s : Wst} {tp : Nat → Int32} {hd : Nat} {wr wa : Int32} {ic : Nat → Option Wd} {tc : Nat → Option (Nat × List Int64)} {F : Nat → Prop} (N : NT G ow m qt s tp hd wr wa ic tc F) {a0 : Int32} {k : Int32} (hk : ∀ (stt stn : OS), CW stn s.1 → f_X11_triads stt stn a0 = some k) : cQ l G yX11_triads cX11_triads 2 (some FieldType.int) rm_X11_triads [.ref (qt 10), .int a0] m (mQi G (fun r m' => r = k ∧ NTP G ow m F m' qt s tp hd wr wa ic tc)) := by
  have N0 := N
  obtain ⟨qn, qd, qh, S, xi, xt, fi, ft, qr, qm, qc, qw, qk, qu, str, stm, stc, stw, stk, stu, hC, hA, hB, hc, hD, rfl⟩ := N
  obtain ⟨stt, stn, std, fb, fa, bs, as, hT, hn, hw, -, -, -, -, -, hk9, -⟩ := id hC
  have hy := hk stt stn hw
  refine (at2 hT hn (c_X11_triads hT.1 hn.1 (oap2 (hT.dis hn (hT.ne hn (by decide)))) hk9.1 hy)).mono (mQi.mono (fun r m' ⟨h2, h3⟩ => ?_))
  rw [hn.eq, hT.eq] at h3
  rw [h3, h2]
  exact ⟨rfl, NTP.rf N0⟩
theorem n_X11_walks {l : Launch} (hst : l.stackTraces = false) {G : mG} {ow : Nat → Nat} {m : mM} {qt : Nat → Nat} {s : Wst} {tp : Nat → Int32} {hd : Nat} {wr wa : Int32} {ic : Nat → Option Wd} {tc : Nat → Option (Nat × List Int64)} {F : Nat → Prop} (N : NT G ow m qt s tp hd wr wa ic tc F) {a0 : Int32} {k : Nat ⊕ Int32} (hk : ∀ (stt stn scr : OS), CW stn s.1 → ∃ x, f_X11_walks stt stn scr a0 = some (match k with | .inl j => .inl j | .inr v => .inr (v, x))) : xQ l G yX11_walks cX11_walks 2 (some FieldType.int) rm_X11_walks [.ref (qt 10), .int a0] m (mQi G (fun r m' => k = .inr r ∧ NTP G ow m F m' qt s tp hd wr wa ic tc)) (fun E m' => (∃ j, k = .inl j ∧ E = exN j) ∧ m' = m) := by
  obtain ⟨qn, qd, qh, S, xi, xt, fi, ft, qr, qm, qc, qw, qk, qu, str, stm, stc, stw, stk, stu, hC, hA, hB, hc, hD, rfl⟩ := N
  obtain ⟨stt, stn, std, fb, fa, bs, as, hT, hn, hw, -, -, -, -, -, hk9, -⟩ := id hC
  obtain ⟨y, hy⟩ := hk stt stn stw hw
  have hs := hD.2.1
  have hT1 := (hs.fA (x := y)).1 _ _ _ (hT.ne hs (by decide)) hT
  have hn1 := (hs.fA (x := y)).1 _ _ _ (hn.ne hs (by decide)) hn
  refine (xt3 hT hn hs (c_X11_walks hst hT.1 hn.1 hs.1 (oap3 (hT.dis hn (hT.ne hn (by decide))) (hT.dis hs (hT.ne hs (by decide))) (hn.dis hs (hn.ne hs (by decide)))) hk9.1 hD.2.2.2.2.2.1 hy)).mono (mQi.mono (fun r m' ⟨z, h1, h2, h3⟩ => ?_)) (fun E m' ⟨j, h1, h2, h3⟩ => ?_)
  · cases k with
    | inl j => cases h1
    | inr v =>
      cases h1
      rw [hn1.eq, hT1.eq] at h3
      rw [h3, h2]
      exact ⟨rfl, NT.sc_LX9 hC hA hB hc hD⟩
  · rw [hs.eq, hn.eq, hT.eq] at h3
    refine ⟨⟨j, ?_, h2⟩, h3⟩
    cases k with
    | inl j => cases h1; rfl
    | inr v => cases h1
theorem n_X11_far {l : Launch} (hst : l.stackTraces = false) {G : mG} {ow : Nat → Nat} {m : mM} {qt : Nat → Nat} {s : Wst} {tp : Nat → Int32} {hd : Nat} {wr wa : Int32} {ic : Nat → Option Wd} {tc : Nat → Option (Nat × List Int64)} {F : Nat → Prop} (N : NT G ow m qt s tp hd wr wa ic tc F) {a0 : Int32} {a1 : Int32} {k : Nat ⊕ Int32} (hk : ∀ (stt stn : OS), CW stn s.1 → f_X11_far stt stn a0 a1 = some k) : xQ l G yX11_far cX11_far 3 (some FieldType.int) rm_X11_far [.ref (qt 10), .int a0, .int a1] m (mQi G (fun r m' => k = .inr r ∧ NTP G ow m F m' qt s tp hd wr wa ic tc)) (fun E m' => (∃ j, k = .inl j ∧ E = exN j) ∧ m' = m) := by
  have N0 := N
  obtain ⟨qn, qd, qh, S, xi, xt, fi, ft, qr, qm, qc, qw, qk, qu, str, stm, stc, stw, stk, stu, hC, hA, hB, hc, hD, rfl⟩ := N
  obtain ⟨stt, stn, std, fb, fa, bs, as, hT, hn, hw, -, -, -, -, -, hk9, -⟩ := id hC
  have hy := hk stt stn hw
  refine (xt2 hT hn (c_X11_far hst hT.1 hn.1 (oap2 (hT.dis hn (hT.ne hn (by decide)))) hk9.1 hy)).mono (mQi.mono (fun r m' ⟨z, h1, h2, h3⟩ => ?_)) (fun E m' ⟨j, h1, h2, h3⟩ => ?_)
  · rw [hn.eq, hT.eq] at h3
    rw [h3, h2]
    exact ⟨h1, NTP.rf N0⟩
  · rw [hn.eq, hT.eq] at h3
    exact ⟨⟨j, h1, h2⟩, h3⟩
theorem n_X11_widest {l : Launch} {G : mG} {ow : Nat → Nat} {m : mM} {qt : Nat → Nat} {s : Wst} {tp : Nat → Int32} {hd : Nat} {wr wa : Int32} {ic : Nat → Option Wd} {tc : Nat → Option (Nat × List Int64)} {F : Nat → Prop} (N : NT G ow m qt s tp hd wr wa ic tc F)  {k : Int32} (hk : ∀ (stt stn : OS), CW stn s.1 → f_X11_widest stt stn  = some k) : cQ l G yX11_widest cX11_widest 1 (some FieldType.int) rm_X11_widest [.ref (qt 10)] m (mQi G (fun r m' => r = k ∧ NTP G ow m F m' qt s tp hd wr wa ic tc)) := by
  have N0 := N
  obtain ⟨qn, qd, qh, S, xi, xt, fi, ft, qr, qm, qc, qw, qk, qu, str, stm, stc, stw, stk, stu, hC, hA, hB, hc, hD, rfl⟩ := N
  obtain ⟨stt, stn, std, fb, fa, bs, as, hT, hn, hw, -, -, -, -, -, hk9, -⟩ := id hC
  have hy := hk stt stn hw
  refine (at2 hT hn (c_X11_widest hT.1 hn.1 (oap2 (hT.dis hn (hT.ne hn (by decide)))) hk9.1 hy)).mono (mQi.mono (fun r m' ⟨h2, h3⟩ => ?_))
  rw [hn.eq, hT.eq] at h3
  rw [h3, h2]
  exact ⟨rfl, NTP.rf N0⟩
theorem n_X11_ring {l : Launch} {G : mG} {ow : Nat → Nat} {m : mM} {qt : Nat → Nat} {s : Wst} {tp : Nat → Int32} {hd : Nat} {wr wa : Int32} {ic : Nat → Option Wd} {tc : Nat → Option (Nat × List Int64)} {F : Nat → Prop} (N : NT G ow m qt s tp hd wr wa ic tc F)  {k : Int32} (hk : ∀ (stt stn scr : OS), CW stn s.1 → ∃ x, f_X11_ring stt stn scr  = some ((k, x))) : cQ l G yX11_ring cX11_ring 1 (some FieldType.int) rm_X11_ring [.ref (qt 10)] m (mQi G (fun r m' => r = k ∧ NTP G ow m F m' qt s tp hd wr wa ic tc)) := by
  obtain ⟨qn, qd, qh, S, xi, xt, fi, ft, qr, qm, qc, qw, qk, qu, str, stm, stc, stw, stk, stu, hC, hA, hB, hc, hD, rfl⟩ := N
  obtain ⟨stt, stn, std, fb, fa, bs, as, hT, hn, hw, -, -, -, -, -, hk9, -⟩ := id hC
  obtain ⟨y, hy⟩ := hk stt stn stw hw
  have hs := hD.2.1
  have hT1 := (hs.fA (x := y)).1 _ _ _ (hT.ne hs (by decide)) hT
  have hn1 := (hs.fA (x := y)).1 _ _ _ (hn.ne hs (by decide)) hn
  refine (at3 hT hn hs (c_X11_ring hT.1 hn.1 hs.1 (oap3 (hT.dis hn (hT.ne hn (by decide))) (hT.dis hs (hT.ne hs (by decide))) (hn.dis hs (hn.ne hs (by decide)))) hk9.1 hD.2.2.2.2.2.1 hy)).mono (mQi.mono (fun r m' ⟨h2, h3⟩ => ?_))
  rw [hn1.eq, hT1.eq] at h3
  rw [h3, h2]
  exact ⟨rfl, NT.sc_LX9 hC hA hB hc hD⟩
theorem n_X11_parts {l : Launch} {G : mG} {ow : Nat → Nat} {m : mM} {qt : Nat → Nat} {s : Wst} {tp : Nat → Int32} {hd : Nat} {wr wa : Int32} {ic : Nat → Option Wd} {tc : Nat → Option (Nat × List Int64)} {F : Nat → Prop} (N : NT G ow m qt s tp hd wr wa ic tc F)  {k : Int32} (hk : ∀ (stt stn : OS), CW stn s.1 → f_X11_parts stt stn  = some k) : cQ l G yX11_parts cX11_parts 1 (some FieldType.int) rm_X11_parts [.ref (qt 10)] m (mQi G (fun r m' => r = k ∧ NTP G ow m F m' qt s tp hd wr wa ic tc)) := by
  have N0 := N
  obtain ⟨qn, qd, qh, S, xi, xt, fi, ft, qr, qm, qc, qw, qk, qu, str, stm, stc, stw, stk, stu, hC, hA, hB, hc, hD, rfl⟩ := N
  obtain ⟨stt, stn, std, fb, fa, bs, as, hT, hn, hw, -, -, -, -, -, hk9, -⟩ := id hC
  have hy := hk stt stn hw
  refine (at2 hT hn (c_X11_parts hT.1 hn.1 (oap2 (hT.dis hn (hT.ne hn (by decide)))) hk9.1 hy)).mono (mQi.mono (fun r m' ⟨h2, h3⟩ => ?_))
  rw [hn.eq, hT.eq] at h3
  rw [h3, h2]
  exact ⟨rfl, NTP.rf N0⟩
theorem n_X11_rank {l : Launch} (hst : l.stackTraces = false) {G : mG} {ow : Nat → Nat} {m : mM} {qt : Nat → Nat} {s : Wst} {tp : Nat → Int32} {hd : Nat} {wr wa : Int32} {ic : Nat → Option Wd} {tc : Nat → Option (Nat × List Int64)} {F : Nat → Prop} (N : NT G ow m qt s tp hd wr wa ic tc F) {a0 : Int32} {k : Nat ⊕ Int32} (hk : ∀ (stt stn scr : OS), CW stn s.1 → ∃ x, f_X11_rank stt stn scr a0 = some (match k with | .inl j => .inl j | .inr v => .inr (v, x))) : xQ l G yX11_rank cX11_rank 2 (some FieldType.int) rm_X11_rank [.ref (qt 10), .int a0] m (mQi G (fun r m' => k = .inr r ∧ NTP G ow m F m' qt s tp hd wr wa ic tc)) (fun E m' => (∃ j, k = .inl j ∧ E = exN j) ∧ m' = m) := by
  obtain ⟨qn, qd, qh, S, xi, xt, fi, ft, qr, qm, qc, qw, qk, qu, str, stm, stc, stw, stk, stu, hC, hA, hB, hc, hD, rfl⟩ := N
  obtain ⟨stt, stn, std, fb, fa, bs, as, hT, hn, hw, -, -, -, -, -, hk9, -⟩ := id hC
  obtain ⟨y, hy⟩ := hk stt stn stk hw
  have hs := hD.2.2.1
  have hT1 := (hs.fA (x := y)).1 _ _ _ (hT.ne hs (by decide)) hT
  have hn1 := (hs.fA (x := y)).1 _ _ _ (hn.ne hs (by decide)) hn
  refine (xt3 hT hn hs (c_X11_rank hst hT.1 hn.1 hs.1 (oap3 (hT.dis hn (hT.ne hn (by decide))) (hT.dis hs (hT.ne hs (by decide))) (hn.dis hs (hn.ne hs (by decide)))) hk9.1 hD.2.2.2.2.2.2.1 hy)).mono (mQi.mono (fun r m' ⟨z, h1, h2, h3⟩ => ?_)) (fun E m' ⟨j, h1, h2, h3⟩ => ?_)
  · cases k with
    | inl j => cases h1
    | inr v =>
      cases h1
      rw [hn1.eq, hT1.eq] at h3
      rw [h3, h2]
      exact ⟨rfl, NT.sc_LX4 hC hA hB hc hD⟩
  · rw [hs.eq, hn.eq, hT.eq] at h3
    refine ⟨⟨j, ?_, h2⟩, h3⟩
    cases k with
    | inl j => cases h1; rfl
    | inr v => cases h1
theorem n_X11_code {l : Launch} (hst : l.stackTraces = false) {G : mG} {ow : Nat → Nat} {m : mM} {qt : Nat → Nat} {s : Wst} {tp : Nat → Int32} {hd : Nat} {wr wa : Int32} {ic : Nat → Option Wd} {tc : Nat → Option (Nat × List Int64)} {F : Nat → Prop} (N : NT G ow m qt s tp hd wr wa ic tc F) {a0 : Int32} {k : Nat ⊕ Int32} (hk : ∀ (stt stn scr : OS), CW stn s.1 → ∃ x, f_X11_code stt stn scr a0 = some (match k with | .inl j => .inl j | .inr v => .inr (v, x))) : xQ l G yX11_code cX11_code 2 (some FieldType.int) rm_X11_code [.ref (qt 10), .int a0] m (mQi G (fun r m' => k = .inr r ∧ NTP G ow m F m' qt s tp hd wr wa ic tc)) (fun E m' => (∃ j, k = .inl j ∧ E = exN j) ∧ m' = m) := by
  obtain ⟨qn, qd, qh, S, xi, xt, fi, ft, qr, qm, qc, qw, qk, qu, str, stm, stc, stw, stk, stu, hC, hA, hB, hc, hD, rfl⟩ := N
  obtain ⟨stt, stn, std, fb, fa, bs, as, hT, hn, hw, -, -, -, -, -, hk9, -⟩ := id hC
  obtain ⟨y, hy⟩ := hk stt stn stk hw
  have hs := hD.2.2.1
  have hT1 := (hs.fA (x := y)).1 _ _ _ (hT.ne hs (by decide)) hT
  have hn1 := (hs.fA (x := y)).1 _ _ _ (hn.ne hs (by decide)) hn
  refine (xt3 hT hn hs (c_X11_code hst hT.1 hn.1 hs.1 (oap3 (hT.dis hn (hT.ne hn (by decide))) (hT.dis hs (hT.ne hs (by decide))) (hn.dis hs (hn.ne hs (by decide)))) hk9.1 hD.2.2.2.2.2.2.1 hy)).mono (mQi.mono (fun r m' ⟨z, h1, h2, h3⟩ => ?_)) (fun E m' ⟨j, h1, h2, h3⟩ => ?_)
  · cases k with
    | inl j => cases h1
    | inr v =>
      cases h1
      rw [hn1.eq, hT1.eq] at h3
      rw [h3, h2]
      exact ⟨rfl, NT.sc_LX4 hC hA hB hc hD⟩
  · rw [hs.eq, hn.eq, hT.eq] at h3
    refine ⟨⟨j, ?_, h2⟩, h3⟩
    cases k with
    | inl j => cases h1; rfl
    | inr v => cases h1
theorem n_X11_turnings {l : Launch} {G : mG} {ow : Nat → Nat} {m : mM} {qt : Nat → Nat} {s : Wst} {tp : Nat → Int32} {hd : Nat} {wr wa : Int32} {ic : Nat → Option Wd} {tc : Nat → Option (Nat × List Int64)} {F : Nat → Prop} (N : NT G ow m qt s tp hd wr wa ic tc F)  {k : Int64} (hk : ∀ (stt stn scr : OS), CW stn s.1 → ∃ x, f_X11_turnings stt stn scr  = some ((k, x))) : cQ l G yX11_turnings cX11_turnings 1 (some FieldType.long) rm_X11_turnings [.ref (qt 10)] m (mQl G (fun r m' => r = k ∧ NTP G ow m F m' qt s tp hd wr wa ic tc)) := by
  obtain ⟨qn, qd, qh, S, xi, xt, fi, ft, qr, qm, qc, qw, qk, qu, str, stm, stc, stw, stk, stu, hC, hA, hB, hc, hD, rfl⟩ := N
  obtain ⟨stt, stn, std, fb, fa, bs, as, hT, hn, hw, -, -, -, -, -, hk9, -⟩ := id hC
  obtain ⟨y, hy⟩ := hk stt stn stu hw
  have hs := hD.2.2.2.1
  have hT1 := (hs.fA (x := y)).1 _ _ _ (hT.ne hs (by decide)) hT
  have hn1 := (hs.fA (x := y)).1 _ _ _ (hn.ne hs (by decide)) hn
  refine (at3 hT hn hs (c_X11_turnings hT.1 hn.1 hs.1 (oap3 (hT.dis hn (hT.ne hn (by decide))) (hT.dis hs (hT.ne hs (by decide))) (hn.dis hs (hn.ne hs (by decide)))) hk9.1 hD.2.2.2.2.2.2.2 hy)).mono (mQl.mono (fun r m' ⟨h2, h3⟩ => ?_))
  rw [hn1.eq, hT1.eq] at h3
  rw [h3, h2]
  exact ⟨rfl, NT.sc_LX8 hC hA hB hc hD⟩
theorem n_X11_orbit {l : Launch} (hst : l.stackTraces = false) {G : mG} {ow : Nat → Nat} {m : mM} {qt : Nat → Nat} {s : Wst} {tp : Nat → Int32} {hd : Nat} {wr wa : Int32} {ic : Nat → Option Wd} {tc : Nat → Option (Nat × List Int64)} {F : Nat → Prop} (N : NT G ow m qt s tp hd wr wa ic tc F) {a0 : Int32} {k : Nat ⊕ Int64} (hk : ∀ (stt stn scr : OS), CW stn s.1 → ∃ x, f_X11_orbit stt stn scr a0 = some (match k with | .inl j => .inl j | .inr v => .inr (v, x))) : xQ l G yX11_orbit cX11_orbit 2 (some FieldType.long) rm_X11_orbit [.ref (qt 10), .int a0] m (mQl G (fun r m' => k = .inr r ∧ NTP G ow m F m' qt s tp hd wr wa ic tc)) (fun E m' => (∃ j, k = .inl j ∧ E = exN j) ∧ m' = m) := by
  obtain ⟨qn, qd, qh, S, xi, xt, fi, ft, qr, qm, qc, qw, qk, qu, str, stm, stc, stw, stk, stu, hC, hA, hB, hc, hD, rfl⟩ := N
  obtain ⟨stt, stn, std, fb, fa, bs, as, hT, hn, hw, -, -, -, -, -, hk9, -⟩ := id hC
  obtain ⟨y, hy⟩ := hk stt stn stu hw
  have hs := hD.2.2.2.1
  have hT1 := (hs.fA (x := y)).1 _ _ _ (hT.ne hs (by decide)) hT
  have hn1 := (hs.fA (x := y)).1 _ _ _ (hn.ne hs (by decide)) hn
  refine (xt3 hT hn hs (c_X11_orbit hst hT.1 hn.1 hs.1 (oap3 (hT.dis hn (hT.ne hn (by decide))) (hT.dis hs (hT.ne hs (by decide))) (hn.dis hs (hn.ne hs (by decide)))) hk9.1 hD.2.2.2.2.2.2.2 hy)).mono (mQl.mono (fun r m' ⟨z, h1, h2, h3⟩ => ?_)) (fun E m' ⟨j, h1, h2, h3⟩ => ?_)
  · cases k with
    | inl j => cases h1
    | inr v =>
      cases h1
      rw [hn1.eq, hT1.eq] at h3
      rw [h3, h2]
      exact ⟨rfl, NT.sc_LX8 hC hA hB hc hD⟩
  · rw [hs.eq, hn.eq, hT.eq] at h3
    refine ⟨⟨j, ?_, h2⟩, h3⟩
    cases k with
    | inl j => cases h1; rfl
    | inr v => cases h1
