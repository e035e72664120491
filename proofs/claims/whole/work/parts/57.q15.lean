/-! questions: parts -/
def Rch (w : Wd) (p q : Nat) : Prop := ∃ j, Rn w p j q
theorem rn_cat {w : Wd} {s a : Nat} {i : Nat} (h : Rn w s i a) : ∀ {j b}, Rn w a j b → Rn w s (i + j) b := by
  intro j
  induction j with
  | zero => intro b hb; have hb : b = a := hb; rw [hb]; exact h
  | succ j ih =>
    rintro b (hb | ⟨h1, c, h2, h3, h4⟩)
    · exact (ih hb).up (by omega)
    · exact Or.inr ⟨h1, c, h2, ih h3, h4⟩
theorem onB_sym {w : Wd} (a b : Nat) : onB w a b = onB w b a := by
  unfold onB
  by_cases c : w.1 ≤ a <;> by_cases d : w.1 ≤ b
  · rw [if_pos c, if_pos d, if_pos d, if_pos c]
  · rw [if_pos c, if_neg d, if_neg d, if_neg (by omega)]
  · rw [if_neg c, if_neg (by omega), if_pos d, if_neg c]
  · rw [if_neg c, if_pos (by omega), if_neg d, if_pos (by omega)]
theorem rn_back {w : Wd} {s : Nat} (hs : s < nod w) : ∀ {j b}, Rn w s j b → Rn w b j s := by
  intro j
  induction j with
  | zero => intro b hb; exact Eq.symm hb
  | succ j ih =>
    rintro b (hb | ⟨h1, c, h2, h3, h4⟩)
    · exact (ih hb).up (by omega)
    · have e : Rn w b 1 c := Or.inr ⟨h2, b, h1, rfl, by rw [onB_sym]; exact h4⟩
      have := rn_cat e (ih h3)
      rw [Nat.add_comm] at this
      exact this
section PART
variable {st stn : OS} {w : Wd}
def Ldr (w : Wd) (p : Nat) : Prop := ∀ o, o < p → ¬ Rch w p o
theorem rch_seen (hW : WFw w) (hn : w.1 ≤ 64) {p T : Nat} (hp : p < w.1) (hT : GT w p T) {o : Nat} (ho : o < w.1) : tb (seen w (bit1 p) T) o = true ↔ Rch w p o := by
  have hR := seen_rn hW hn hp
  constructor
  · intro h; exact ⟨_, (hR T o ho).mp h⟩
  · rintro ⟨j, hj⟩
    have g1 : Rn w p (2 * (T + j)) o := hj.up (by omega)
    have g2 := (hR (T + j) o ho).mpr g1
    rw [seen_fix hT.2.1] at g2
    exact g2
theorem piece_9 (hw : CW stn w) {p T : Nat} (hp : p < w.1) (hT : GT w p T) : f_X9_pieceOf stn (bit1 p) = some (seen w (bit1 p) T) := by
  have hn := hw.1.2.2.1
  obtain ⟨h1, h2, h3⟩ := hT
  have key := lpv_from (f := f_X9_pieceOf_5 stn) (fun t => (seen w (bit1 p) t, nI t)) T (r := (0, seen w (bit1 p) T)) (a := 0) (fun t _ ht => ?_) ?_ (Nat.zero_le _)
  · unfold f_X9_pieceOf
    rw [show (bit1 p, (0 : Int32)) = (seen w (bit1 p) 0, nI 0) from rfl, key, ob_s]
    rfl
  · unfold f_X9_pieceOf_5
    dsimp only
    rw [if_neg (show ¬ (64 : Int32) ≤ nI t from nI_ge (b := 64) (by omega) (by decide)), nta_9 hw, ob_s]
    dsimp only [bnd]
    simp only [lg_cmp_eq]
    rw [if_neg (show ¬ seen w (bit1 p) t ||| ntaF w (seen w (bit1 p) t) = seen w (bit1 p) t from h3 t ht), nI_1]
    rfl
  · unfold f_X9_pieceOf_5
    dsimp only
    rw [if_neg (show ¬ (64 : Int32) ≤ nI T from nI_ge (b := 64) (by omega) (by decide)), nta_9 hw, ob_s]
    dsimp only [bnd]
    simp only [lg_cmp_eq]
    rw [if_pos (show seen w (bit1 p) T ||| ntaF w (seen w (bit1 p) T) = seen w (bit1 p) T from h2)]
noncomputable def ldB (w : Wd) (p : Nat) : Bool := @decide (Ldr w p) (Classical.propDecidable _)
theorem ldB_iff {p : Nat} : ldB w p = true ↔ Ldr w p := by unfold ldB; exact @decide_eq_true_iff _ (Classical.propDecidable _)
theorem cnt_skip {P : Nat → Bool} {a b : Nat} (h : a ≤ b) (h0 : ∀ i, a ≤ i → i < b → P i = false) : cnt P b = cnt P a := cnt_out h h0
theorem pieces_9 (hw : CW stn w) (hW : WFw w) : f_X9_pieces stn = some (nI (cnt (ldB w) w.1)) := by
  have hn := hw.1.2.2.1
  have hm := hw.1.2.2.2.1
  have sym : ∀ {p q}, p < w.1 → Rch w p q → Rch w q p := fun {p q} hp ⟨j, hj⟩ => ⟨j, rn_back (by unfold nod; omega) hj⟩
  have tra : ∀ {p q r}, Rch w p q → Rch w q r → Rch w p r := fun {p q r} ⟨i, hi⟩ ⟨j, hj⟩ => ⟨_, rn_cat hi hj⟩
  -- what is left, and how far
  have notl : ∀ (P : Nat) (left : Int64), (∀ q, tb left q = true ↔ q < w.1 ∧ ∀ r, r < P → ¬ Rch w r q) → ∀ q, P ≤ q → q < w.1 → tb left q = false → ∃ r, r < P ∧ Rch w r q := fun P left h q h1 h2 h3 => by
    false_or_by_contra
    rename_i hn
    have : tb left q = true := (h q).mpr ⟨h2, fun r hr z => hn ⟨r, hr, z⟩⟩
    rw [h3] at this
    cases this
  have nold : ∀ (P : Nat) (left : Int64), P ≤ w.1 → (∀ q, tb left q = true ↔ q < w.1 ∧ ∀ r, r < P → ¬ Rch w r q) → ∀ q, P ≤ q → q < w.1 → tb left q = false → ldB w q = false := fun P left hP h q h1 h2 h3 => by
    obtain ⟨r, r1, r2⟩ := notl P left h q h1 h2 h3
    refine eq_false_of_ne_true (fun z => ?_)
    exact (ldB_iff.mp z) r (by omega) (sym (by omega) r2)
  have key := lpv_mea (f := f_X9_pieces_10 stn) (fun z => ∃ P, P ≤ w.1 ∧ z.2.1 = nI (cnt (ldB w) P) ∧ z.2.2 = nI (cnt (ldB w) P) ∧ ∀ q, tb z.1 q = true ↔ q < w.1 ∧ ∀ r, r < P → ¬ Rch w r q) (fun z => 100 - z.2.2.toNatClampNeg) (fun r => r = nI (cnt (ldB w) w.1)) (fun z hI => ?_) (fst64 w.1, 0, 0) ⟨0, Nat.zero_le _, rfl, rfl, fun q => ?_⟩
  · obtain ⟨r, e, h⟩ := key
    unfold f_X9_pieces
    rw [all_10 hw.1, ob_s, e, ob_s, h]
  · obtain ⟨left, b, c⟩ := z
    obtain ⟨P, h1, h2, h3, h4⟩ := hI
    dsimp only at h2 h3 h4
    subst h2 h3
    have hc := cnt_le (ldB w) P
    by_cases hz : left = 0
    · right
      refine ⟨nI (cnt (ldB w) P), ?_, ?_⟩
      · unfold f_X9_pieces_10
        dsimp only
        by_cases q : (64 : Int32) ≤ nI (cnt (ldB w) P)
        · rw [if_pos q]
        · rw [if_neg q]
          simp only [lg_cmp_eq]
          rw [if_pos hz]
      · rw [cnt_skip h1 (fun i i1 i2 => nold P left h1 h4 i i1 i2 (by rw [hz, tb_0]))]
    · obtain ⟨l1, l2, l3⟩ := low_tb hz
      obtain ⟨g1, g2⟩ := (h4 _).mp l1
      have hP : P ≤ low left := by
        rcases Nat.lt_or_ge (low left) P with q | q
        · exact absurd ⟨0, rfl⟩ (g2 _ q)
        · exact q
      obtain ⟨T, hT⟩ := gt_ex (w := w) l2
      have hlead : Ldr w (low left) := fun o ho hr => by
        rcases Nat.lt_or_ge o P with q | q
        · exact g2 o q (sym g1 hr)
        · obtain ⟨r, r1, r2⟩ := notl P left h4 o q (by omega) (l3 o ho)
          exact g2 r r1 (tra r2 (sym g1 hr))
      have hcnt : cnt (ldB w) (low left + 1) = cnt (ldB w) P + 1 := by
        rw [cnt_s, if_pos (ldB_iff.mpr hlead), cnt_skip hP (fun i i1 i2 => nold P left h1 h4 i i1 (by omega) (l3 i i2))]
      left
      refine ⟨(left &&& (seen w (bit1 (low left)) T ^^^ (-1)), nI (cnt (ldB w) (low left + 1)), nI (cnt (ldB w) (low left + 1))), ?_, ⟨low left + 1, by omega, rfl, rfl, fun q => ?_⟩, ?_⟩
      · unfold f_X9_pieces_10
        dsimp only
        rw [if_neg (show ¬ (64 : Int32) ≤ nI (cnt (ldB w) P) from nI_ge (b := 64) (by omega) (by decide))]
        simp only [lg_cmp_eq]
        rw [if_neg hz, low_bit hz, piece_9 hw g1 hT, ob_s]
        simp only [bnd, nI_1]
        rw [hcnt]
      · dsimp only
        rw [tb_dif, Bool.and_eq_true, h4 q]
        constructor
        · rintro ⟨⟨q1, q2⟩, q3⟩
          have q4 : ¬ Rch w (low left) q := fun z => by
            rw [(rch_seen hW hn g1 hT q1).mpr z] at q3
            cases q3
          refine ⟨q1, fun r hr z => ?_⟩
          rcases Nat.lt_or_ge r P with c | c
          · exact q2 r c z
          · rcases Nat.lt_or_ge r (low left) with d | d
            · obtain ⟨s, s1, s2⟩ := notl P left h4 r c (by omega) (l3 r d)
              exact q2 s s1 (tra s2 z)
            · rw [show r = low left by omega] at z
              exact q4 z
        · rintro ⟨q1, q2⟩
          refine ⟨⟨q1, fun r hr => q2 r (by omega)⟩, ?_⟩
          rw [eq_false_of_ne_true (fun z => q2 (low left) (by omega) ((rch_seen hW hn g1 hT q1).mp z))]
          rfl
      · dsimp only
        have := cnt_le (ldB w) (low left + 1)
        rw [nI_clamp (by omega), nI_clamp (by omega), hcnt]
        omega
  · dsimp only
    rw [tb_fst64 hn]
    constructor
    · intro z; exact ⟨of_decide_eq_true z, fun r hr => by omega⟩
    · intro z; exact decide_eq_true z.1
theorem pt_in {x : OS} {p : Nat} (hp : p < 64) (b1 : Int32) (ha : DIST w p (x.2.2.1 27)) (hpn : p < w.1) : lpv (f_X12_parts_28 x b1 (nI p)) (1, 0) = some (b2i (ldB w p)) := by
  have key := lpv_inv (f := f_X12_parts_28 x b1 (nI p)) (fun i z => z.2 = nI i ∧ ((z.1 = 1 ∧ ∀ o, o < i → ¬ Rch w p o) ∨ (z.1 = 0 ∧ ∃ o, o < i ∧ Rch w p o))) p (fun r => r = b2i (ldB w p)) (fun i z hi hI => Or.inl ?_) (fun z hI => ?_) 0 (1, 0) (Nat.zero_le _) ⟨rfl, Or.inl ⟨rfl, fun o ho => by omega⟩⟩
  · obtain ⟨r, e, h⟩ := key
    rw [e, h]
  · obtain ⟨v, b⟩ := z
    obtain ⟨e1, e2⟩ := hI
    dsimp only at e1 e2
    subst e1
    rcases e2 with ⟨f1, f2⟩ | ⟨f1, o, f2, f3⟩
    · subst f1
      have hst : f_X12_parts_28 x b1 (nI p) (1, nI i) = if x.2.2.1 27 i = -1 then some (.inl (1, nI (i + 1))) else some (.inl (0, nI (i + 1))) := by
        unfold f_X12_parts_28
        dsimp only
        rw [if_neg (nI_ge hi (by omega)), if_neg (by decide), if_pos (inb_t (by omega) (by omega)), nI_clamp (by omega)]
        simp only [bnd, nI_1]
      rcases ha i (by unfold nod; omega) with ⟨d, d1, d2, d3, _⟩ | ⟨d2, d3⟩
      · rw [d2, if_neg (nI_m1 (by omega))] at hst
        exact ⟨_, hst, rfl, Or.inr ⟨rfl, i, by omega, d, d3⟩⟩
      · rw [d2, if_pos rfl] at hst
        exact ⟨_, hst, rfl, Or.inl ⟨rfl, fun o ho => by
          rcases Nat.lt_or_ge o i with q | q
          · exact f2 o q
          · rw [show o = i by omega]; rintro ⟨j, hj⟩; exact d3 j hj⟩⟩
    · subst f1
      have hst : f_X12_parts_28 x b1 (nI p) (0, nI i) = some (.inl (0, nI (i + 1))) := by
        unfold f_X12_parts_28
        dsimp only
        rw [if_neg (nI_ge hi (by omega)), if_pos rfl]
        simp only [bnd, nI_1]
      exact ⟨_, hst, rfl, Or.inr ⟨rfl, o, by omega, f3⟩⟩
  · obtain ⟨v, b⟩ := z
    obtain ⟨e1, e2⟩ := hI
    dsimp only at e1 e2
    subst e1
    refine ⟨v, ?_, ?_⟩
    · unfold f_X12_parts_28
      dsimp only
      rw [if_pos (nI_le (Nat.le_refl _) (by omega))]
    · rcases e2 with ⟨f1, f2⟩ | ⟨f1, o, f2, f3⟩
      · rw [f1, ldB_iff.mpr f2]; rfl
      · rw [f1, eq_false_of_ne_true (fun z => (ldB_iff.mp z) o f2 f3)]; rfl
theorem q_parts (hW : WFw w) (h : RWo st w.1 w.2) : ∃ k, (∀ stt stn, CW stn w → f_X11_parts stt stn = some k) ∧ ∃ x, f_X12_parts st = some (k, x) ∧ Kt st x := by
  have h0 := h.th 0
  have hn := h.2.2.1
  refine ⟨nI (cnt (ldB w) w.1), fun stt stn hw => ?_, ?_⟩
  · unfold f_X11_parts
    rw [pieces_9 hw hW, ob_s]
  · have key := lpv_inv (f := f_X12_parts_9) (fun p z => z.2.2 = nI p ∧ z.2.1 = nI (cnt (ldB w) p) ∧ Kp (oI st 2 0) z.1) w.1 (fun r => r.2 = nI (cnt (ldB w) w.1) ∧ Kp (oI st 2 0) r.1) (fun p z hp hI => Or.inl ?_) (fun z hI => ?_) 0 (oI st 2 0, 0, 0) (Nat.zero_le _) ⟨rfl, rfl, Keep.rf⟩
    · obtain ⟨⟨x, v⟩, e, h1, h2⟩ := key
      have h1 : v = _ := h1
      subst h1
      refine ⟨x, ?_, Kt.p h2⟩
      unfold f_X12_parts
      dsimp only [bnd]
      rw [e, ob_s]
    · obtain ⟨x, b, c⟩ := z
      obtain ⟨e1, e2, e3⟩ := hI
      dsimp only at e1 e2 e3
      subst e1 e2
      obtain ⟨v, y, f1, f2, f3⟩ := lays_12 (h0.kp e3) (s := p) (by unfold nod; omega)
      refine ⟨(y, nI (cnt (ldB w) (p + 1)), nI (p + 1)), ?_, rfl, rfl, Keep.tr e3 f2⟩
      unfold f_X12_parts_9
      dsimp only
      rw [(h0.kp e3).1, if_neg (nI_ge hp (by omega)), f1, ob_s]
      dsimp only
      rw [pt_in (show p < 64 by omega) _ f3 hp, ob_s, cnt_s]
      cases ldB w p with
      | true => rw [if_neg b2t, if_pos rfl]; simp only [bnd, nI_1]
      | false => rw [if_pos b2f, if_neg (by decide)]; simp only [bnd, nI_1, Int32.add_zero, Nat.add_zero]
    · obtain ⟨x, b, c⟩ := z
      obtain ⟨e1, e2, e3⟩ := hI
      dsimp only at e1 e2 e3
      subst e1 e2
      refine ⟨(x, nI (cnt (ldB w) w.1)), ?_, rfl, e3⟩
      unfold f_X12_parts_9
      dsimp only
      rw [(h0.kp e3).1, if_pos (nI_le (Nat.le_refl _) (by omega))]
end PART
