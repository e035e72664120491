/-! turnings: the reference's search -/
theorem match_ex {m : Nat} {A B : Nat → Int64} {f : Int64 → Int64} (hinj : ∀ i j, i < m → j < m → f (A i) = f (A j) → A i = A j) (h : ∀ k, k < m → cnt (fun i => decide (A i = A k)) m = cnt (fun j => decide (B j = f (A k))) m) : ∃ σ, BJ m σ ∧ ∀ k, k < m → B (σ k) = f (A k) := by
  have key : ∀ k, k < m → ∃ j, j < m ∧ B j = f (A k) ∧ cnt (fun j => decide (B j = f (A k))) j = cnt (fun i => decide (A i = A k)) k := fun k hk => by
    have h1 : cnt (fun i => decide (A i = A k)) k < cnt (fun j => decide (B j = f (A k))) m := by
      rw [← h k hk]
      have e : cnt (fun i => decide (A i = A k)) (k + 1) = cnt (fun i => decide (A i = A k)) k + 1 := by rw [cnt_s, if_pos (decide_eq_true rfl)]
      have := fb_ct_mono (fun i => decide (A i = A k)) (show k + 1 ≤ m by omega)
      rw [← cnt_fb, ← cnt_fb] at this
      omega
    rw [cnt_fb (fun j => decide (B j = f (A k)))] at h1
    obtain ⟨j, j1, j2, j3⟩ := fb_ct_kth h1
    exact ⟨j, j1, of_decide_eq_true j2, by rw [cnt_fb]; exact j3⟩
  refine ⟨fun k => if h : k < m then (key k h).choose else k, ⟨fun k hk => ?_, fun i j hi hj e => ?_⟩, fun k hk => ?_⟩
  · dsimp only
    rw [dif_pos hk]
    exact (key k hk).choose_spec.1
  · dsimp only at e
    rw [dif_pos hi, dif_pos hj] at e
    obtain ⟨a1, a2, a3⟩ := (key i hi).choose_spec
    obtain ⟨b1, b2, b3⟩ := (key j hj).choose_spec
    rw [← e] at b2 b3
    have hA := hinj i j hi hj (a2.symm.trans b2)
    rw [← hA] at b3
    have h9 := a3.symm.trans b3
    rw [cnt_fb, cnt_fb] at h9
    exact fb_ct_kth_one (p := fun o => decide (A o = A i)) (decide_eq_true rfl) (decide_eq_true hA.symm) h9
  · dsimp only
    rw [dif_pos hk]
    exact (key k hk).choose_spec.2.1
def upB (D : Nat → Bool) (p q : Nat) : Bool := D q || decide (q = p)
theorem upB_s {D : Nat → Bool} {p : Nat} : upB D p p = true := by unfold upB; rw [decide_eq_true rfl, Bool.or_true]
theorem upB_n {D : Nat → Bool} {p q : Nat} (h : q ≠ p) : upB D p q = D q := by unfold upB; rw [decide_eq_false h, Bool.or_false]
theorem upN_s {f : Nat → Nat} {p x : Nat} : upN f p x p = x := if_pos rfl
theorem upN_n {f : Nat → Nat} {p x q : Nat} (h : q ≠ p) : upN f p x q = f q := if_neg h
section TGO
variable {st : OS} {w v : Wd} {D : Nat → Bool} {g : Nat → Nat}
theorem gTo_iso {σ : Nat → Nat} (hO : OW st w v) (hg : ∀ p, p < w.1 → D p = true → g p < w.1) (hT : ∀ p, p < w.1 → D p = true) (hI : IS2 w v g σ) {k : Nat} (hk : k < w.2.length) : wl v.2 (σ k) = gTo w D g (wl w.2 k) := by
  obtain ⟨h1, h2, h3, h4, h5, h6, h7, h8⟩ := hO
  refine tb_ext (fun x _ => Bool.eq_iff_iff.mpr ?_)
  rw [tb_gTo h4 hg]
  have hσ := hI.2.1.1 k hk
  constructor
  · intro hx
    have hxN : x < w.1 := by rw [← h5]; exact h8.pt (by omega) (by omega) hx
    obtain ⟨p, p1, p2⟩ := hI.1.onto hxN
    rw [← p2, hI.2.2 p k p1 hk] at hx
    exact ⟨p, p1, hT p p1, hx, p2⟩
  · rintro ⟨p, p1, p2, p3, p4⟩
    rw [← p4, hI.2.2 p k p1 hk]
    exact p3
theorem gTo_inj (hN : w.1 ≤ 16) (hM : PM st w D g) (hT : ∀ p, p < w.1 → D p = true) {S T : Int64} (hS : ∀ i, tb S i = true → i < w.1) (hT' : ∀ i, tb T i = true → i < w.1) (e : gTo w D g S = gTo w D g T) : S = T := by
  have key : ∀ S T : Int64, (∀ i, tb S i = true → i < w.1) → gTo w D g S = gTo w D g T → ∀ i, tb S i = true → tb T i = true := fun S T hS e i hi => by
    have hiN := hS i hi
    have h1 := (tb_gTo hN hM.2.2.1 S (g i)).mpr ⟨i, hiN, hT i hiN, hi, rfl⟩
    rw [e] at h1
    obtain ⟨q, q1, q2, q3, q4⟩ := (tb_gTo hN hM.2.2.1 T (g i)).mp h1
    rw [← hM.2.2.2 q i q1 hiN q2 (hT i hiN) q4]
    exact q3
  exact tb_ext (fun i _ => Bool.eq_iff_iff.mpr ⟨key S T hS e i, key T S hT' e.symm i⟩)
theorem goesWholly_12 (hO : OW st w v) (hM : PM st w D g) (hT : ∀ p, p < w.1 → D p = true) : ∃ c, f_X12_goesWholly st = some c ∧ (c = 0 ∨ c = 1) ∧ (c = 1 ↔ ISO w v g) := by
  obtain ⟨h1, h2, h3, h4, h5, h6, h7, h8⟩ := id hO
  have hl := h1.2.2.2.1
  have hcw : ∀ S, cnt (fun k => decide (st.2.2.2 3 k = S)) w.2.length = cnt (fun k => decide (wl w.2 k = S)) w.2.length := fun S => cnt_cong (fun k hk => by rw [h1.2.2.2.2 k hk])
  have hcv : ∀ S, cnt (fun k => decide (st.2.2.2 34 k = S)) v.2.length = cnt (fun k => decide (wl v.2 k = S)) v.2.length := fun S => cnt_cong (fun k hk => by rw [h3 k hk])
  have key := lpv_inv (f := f_X12_goesWholly_2 st) (fun i z => z = nI i ∧ ∀ k, k < i → cnt (fun o => decide (wl w.2 o = wl w.2 k)) w.2.length = cnt (fun o => decide (wl v.2 o = gTo w D g (wl w.2 k))) v.2.length) w.2.length (fun r => (r = 1 ∧ ∀ k, k < w.2.length → cnt (fun o => decide (wl w.2 o = wl w.2 k)) w.2.length = cnt (fun o => decide (wl v.2 o = gTo w D g (wl w.2 k))) v.2.length) ∨ (r = 0 ∧ ¬ ∀ k, k < w.2.length → cnt (fun o => decide (wl w.2 o = wl w.2 k)) w.2.length = cnt (fun o => decide (wl v.2 o = gTo w D g (wl w.2 k))) v.2.length)) (fun i z hi hI => ?_) (fun z hI => ?_) 0 0 (Nat.zero_le _) ⟨rfl, fun k hk => by omega⟩
  · obtain ⟨r, e1, e2⟩ := key
    have hlen : st.1 1 = st.1 35 := by rw [h1.2.1, h2, h6]
    have hiff : (∀ k, k < w.2.length → cnt (fun o => decide (wl w.2 o = wl w.2 k)) w.2.length = cnt (fun o => decide (wl v.2 o = gTo w D g (wl w.2 k))) v.2.length) ↔ ISO w v g := by
      constructor
      · intro h
        rw [h6] at h
        obtain ⟨σ, s1, s2⟩ := match_ex (A := wl w.2) (B := wl v.2) (f := gTo w D g) (m := w.2.length) (fun i j hi hj e => gTo_inj h4 hM hT (fun x z => h7.pt (by omega) hi z) (fun x z => h7.pt (by omega) hj z) e) h
        refine ⟨σ, ⟨fun p hp => hM.2.2.1 p hp (hT p hp), fun p q hp hq e => hM.2.2.2 p q hp hq (hT p hp) (hT q hq) e⟩, s1, fun p i hp hi => ?_⟩
        rw [s2 i hi]
        refine Bool.eq_iff_iff.mpr ((tb_gTo h4 hM.2.2.1 _ _).trans ⟨?_, fun z => ⟨p, hp, hT p hp, z, rfl⟩⟩)
        rintro ⟨q, q1, q2, q3, q4⟩
        rw [← hM.2.2.2 q p q1 hp q2 (hT p hp) q4]
        exact q3
      · rintro ⟨σ, i1⟩ k hk
        rw [h6]
        refine cnt_bij i1.2.1 (fun o ho => ?_)
        rw [gTo_iso hO hM.2.2.1 hT i1 ho]
        refine Bool.eq_iff_iff.mpr ?_
        rw [decide_eq_true_iff, decide_eq_true_iff]
        exact ⟨fun z => by rw [z], fun z => gTo_inj h4 hM hT (fun x y => h7.pt (by omega) ho y) (fun x y => h7.pt (by omega) hk y) z⟩
    unfold f_X12_goesWholly
    rw [e1, ob_s]
    rcases e2 with ⟨e2, e3⟩ | ⟨e2, e3⟩
    · rw [e2, if_neg (by decide), if_pos hlen]
      exact ⟨1, rfl, Or.inr rfl, fun _ => hiff.mp e3, fun _ => rfl⟩
    · rw [e2, if_pos rfl]
      exact ⟨0, rfl, Or.inl rfl, fun z => absurd z (by decide), fun z => absurd (hiff.mpr z) e3⟩
  · obtain ⟨rfl, hI⟩ := hI
    have e1 := cnt_le (fun o => decide (wl w.2 o = wl w.2 i)) w.2.length
    have e2 := cnt_le (fun o => decide (wl v.2 o = gTo w D g (wl w.2 i))) v.2.length
    have hst : f_X12_goesWholly_2 st (nI i) = if cnt (fun o => decide (wl w.2 o = wl w.2 i)) w.2.length = cnt (fun o => decide (wl v.2 o = gTo w D g (wl w.2 i))) v.2.length then some (.inl (nI (i + 1))) else some (.inr 0) := by
      unfold f_X12_goesWholly_2
      rw [h1.2.1, if_neg (nI_ge hi (by omega)), if_pos (inb_t (by omega) (by omega)), nI_clamp (by omega), h1.2.2.2.2 i hi, many_12 _ hl (Nat.le_refl _), ob_s, goneTo_12 h1 h4 hM, ob_s, h2, many_12 _ (by omega) (Nat.le_refl _), ob_s, hcw, hcv]
      dsimp only [bnd]
      rw [nI_1]
      by_cases c : cnt (fun o => decide (wl w.2 o = wl w.2 i)) w.2.length = cnt (fun o => decide (wl v.2 o = gTo w D g (wl w.2 i))) v.2.length
      · rw [if_pos (congrArg nI c), if_pos c]
      · rw [if_neg (fun z => c ((nI_eq (by omega) (by omega)).mp z)), if_neg c]
    rw [hst]
    by_cases c : cnt (fun o => decide (wl w.2 o = wl w.2 i)) w.2.length = cnt (fun o => decide (wl v.2 o = gTo w D g (wl w.2 i))) v.2.length
    · rw [if_pos c]
      exact Or.inl ⟨_, rfl, rfl, fun k hk => by
        rcases Nat.lt_or_ge k i with q | q
        · exact hI k q
        · rw [show k = i by omega]; exact c⟩
    · rw [if_neg c]
      exact Or.inr ⟨_, rfl, Or.inr ⟨rfl, fun z => c (z i hi)⟩⟩
  · obtain ⟨rfl, hI⟩ := hI
    refine ⟨1, ?_, Or.inl ⟨rfl, hI⟩⟩
    unfold f_X12_goesWholly_2
    rw [h1.2.1, if_pos (nI_le (Nat.le_refl _) (by omega))]
theorem goes_12 (hO : OW st w v) (hM : PM st w D g) {p to : Nat} (hp : p < w.1) (hD : D p = false) (hto : to < w.1) (hn : ∀ q, q < w.1 → D q = true → g q ≠ to) : ∃ c x, f_X12_goes st (nI p) (nI to) = some (c, x) ∧ KG2 st x ∧ PM x w (upB D p) (upN g p to) ∧ (c = 0 ∨ c = 1) ∧ ∀ π, EXT w v (upB D p) (upN g p to) π → c = 1 := by
  have hN := hO.2.2.2.1
  obtain ⟨x, hx⟩ : ∃ x, x = oJ (oA st 36 (upd (st.2.2.1 36) p (nI to))) 37 ((oA st 36 (upd (st.2.2.1 36) p (nI to))).2.1 37 ||| bit1 to) := ⟨_, rfl⟩
  have hK : KG2 st x := by rw [hx]; exact (KG2.rf.oA _).oJ _ _
  have x36 : x.2.2.1 36 = upd (st.2.2.1 36) p (nI to) := by
    rw [hx, oJ_22, oA_self]
  have x37 : x.2.1 37 = st.2.1 37 ||| bit1 to := by
    rw [hx, oJ_self]; rfl
  have hPM : PM x w (upB D p) (upN g p to) := by
    refine ⟨fun q hq => ?_, fun y => ?_, fun q hq h => ?_, fun q r hq hr h1 h2 e => ?_⟩
    · rw [x36]
      by_cases c : q = p
      · rw [c, upd_s, upB_s, if_pos rfl, upN_s]
      · rw [upd_n c, upB_n c, upN_n c]; exact hM.1 q hq
    · rw [x37, tb_or, Bool.or_eq_true, hM.2.1 y, tb_bit1 (by omega), decide_eq_true_iff]
      constructor
      · rintro (⟨q, q1, q2, q3⟩ | h)
        · have c : q ≠ p := fun z => by rw [z, hD] at q2; cases q2
          exact ⟨q, q1, by rw [upB_n c]; exact q2, by rw [upN_n c]; exact q3⟩
        · exact ⟨p, hp, upB_s, by rw [upN_s]; exact h.symm⟩
      · rintro ⟨q, q1, q2, q3⟩
        by_cases c : q = p
        · rw [c, upN_s] at q3
          exact Or.inr q3.symm
        · rw [upB_n c] at q2
          rw [upN_n c] at q3
          exact Or.inl ⟨q, q1, q2, q3⟩
    · by_cases c : q = p
      · rw [c, upN_s]; exact hto
      · rw [upB_n c] at h
        rw [upN_n c]
        exact hM.2.2.1 q hq h
    · by_cases c : q = p <;> by_cases d : r = p
      · omega
      · rw [upB_n d] at h2
        rw [c, upN_s, upN_n d] at e
        exact absurd e.symm (hn r hr h2)
      · rw [upB_n c] at h1
        rw [d, upN_s, upN_n c] at e
        exact absurd e (hn q hq h1)
      · rw [upB_n c] at h1
        rw [upB_n d] at h2
        rw [upN_n c, upN_n d] at e
        exact hM.2.2.2 q r hq hr h1 h2 e
  obtain ⟨c, e1, e2, e3⟩ := isWell_12 (hO.k hK) hPM hp upB_s
  refine ⟨c, x, ?_, hK, hPM, e2, e3⟩
  unfold f_X12_goes
  rw [if_pos (inb_t (by omega) (by omega)), nI_clamp (by omega)]
  dsimp only [bnd]
  rw [bit_12 (by omega), ob_s, ← hx, e1, ob_s, if_pos]
  rcases e2 with e2 | e2 <;> rw [e2] <;> decide
theorem backs_12 (hN : w.1 ≤ 16) {p to : Nat} (hp : p < w.1) (hD : D p = false) (hM0 : (∀ p, p < w.1 → D p = true → g p < w.1) ∧ ∀ p q, p < w.1 → q < w.1 → D p = true → D q = true → g p = g q → p = q) (hM : PM st w (upB D p) (upN g p to)) : ∃ x, f_X12_backs st (nI p) = some x ∧ KG2 st x ∧ PM x w D g := by
  have hto : to < w.1 := by
    have := hM.2.2.1 p hp upB_s
    rw [upN_s] at this
    exact this
  obtain ⟨x, hx⟩ : ∃ x, x = oA (oJ st 37 (st.2.1 37 &&& (bit1 to ^^^ (-1)))) 36 (upd (st.2.2.1 36) p (-1)) := ⟨_, rfl⟩
  have x36 : x.2.2.1 36 = upd (st.2.2.1 36) p (-1) := by rw [hx, oA_self]
  have x37 : x.2.1 37 = st.2.1 37 &&& (bit1 to ^^^ (-1)) := by rw [hx, oA_J, oJ_self]
  have h36 : st.2.2.1 36 p = nI to := by rw [hM.1 p hp, upB_s, if_pos rfl, upN_s]
  refine ⟨x, ?_, by rw [hx]; exact (KG2.rf.oJ _ _).oA _, fun q hq => ?_, fun y => ?_, hM0⟩
  · unfold f_X12_backs
    rw [if_pos (inb_t (by omega) (by omega)), nI_clamp (by omega), h36, bit_12 (by omega), ob_s]
    dsimp only [bnd]
    rw [hx]
    rfl
  · rw [x36]
    by_cases c : q = p
    · rw [c, upd_s, hD, if_neg (by decide)]
    · rw [upd_n c, hM.1 q hq, upB_n c, upN_n c]
  · rw [x37, tb_dif, Bool.and_eq_true, hM.2.1 y, tb_bit1 (by omega)]
    constructor
    · rintro ⟨⟨q, q1, q2, q3⟩, h⟩
      by_cases c : q = p
      · rw [c, upN_s] at q3
        rw [decide_eq_true q3.symm] at h
        cases h
      · rw [upB_n c] at q2
        rw [upN_n c] at q3
        exact ⟨q, q1, q2, q3⟩
    · rintro ⟨q, q1, q2, q3⟩
      have c : q ≠ p := fun z => by rw [z, hD] at q2; cases q2
      refine ⟨⟨q, q1, by rw [upB_n c]; exact q2, by rw [upN_n c]; exact q3⟩, ?_⟩
      have hne : y ≠ to := fun z => by
        have := hM.2.2.2 q p q1 hp (by rw [upB_n c]; exact q2) upB_s (by rw [upN_n c, upN_s, q3, z])
        exact c this
      rw [decide_eq_false hne]
      rfl
theorem ext_up {π : Nat → Nat} {p : Nat} (h : EXT w v D g π) : EXT w v (upB D p) (upN g p (π p)) π := ⟨h.1, fun q hq hD => by
  by_cases c : q = p
  · rw [c, upN_s]
  · rw [upB_n c] at hD
    rw [upN_n c]
    exact h.2 q hq hD⟩
theorem ext_dn {π : Nat → Nat} {p to : Nat} (hD : D p = false) (h : EXT w v (upB D p) (upN g p to) π) : EXT w v D g π := ⟨h.1, fun q hq hq2 => by
  have c : q ≠ p := fun z => by rw [z, hD] at hq2; cases hq2
  have := h.2 q hq (by rw [upB_n c]; exact hq2)
  rw [upN_n c] at this
  exact this⟩
theorem canGo_12 : ∀ (f p : Nat) (st : OS) (D : Nat → Bool) (g : Nat → Nat), p ≤ w.1 → w.1 < f + p → OW st w v → PM st w D g → (∀ q, q < p → D q = true) →
    ∃ c y, f_X12_canGo f st (nI p) = some (c, y) ∧ KG2 st y ∧ (c = 0 ∨ c = 1) ∧ (c = 0 → PM y w D g) ∧ (c = 1 ↔ ∃ π, EXT w v D g π) := by
  intro f
  induction f with
  | zero => intro p st D g h1 h2; omega
  | succ f ih =>
    intro p st D g hpn hf hO hM hlt
    have hN := hO.2.2.2.1
    have hn := hO.1.1
    show ∃ c y, f_X12_canGo_T (f_X12_canGo f) st (nI p) = some (c, y) ∧ _
    unfold f_X12_canGo_T
    rw [hn]
    by_cases hp : p = w.1
    · rw [if_pos (congrArg nI hp)]
      have hT : ∀ q, q < w.1 → D q = true := fun q hq => hlt q (by omega)
      obtain ⟨c, e1, e2, e3⟩ := goesWholly_12 hO hM hT
      refine ⟨c, st, ?_, KG2.rf, e2, fun _ => hM, e3.trans ⟨fun h => ⟨g, h, fun _ _ _ => rfl⟩, fun ⟨π, h1, h2⟩ => h1.cong (fun q hq => (h2 q hq (hT q hq)).symm)⟩⟩
      rw [e1, ob_s, if_pos]
      rcases e2 with e2 | e2 <;> rw [e2] <;> decide
    · have hp2 : p < w.1 := by omega
      rw [if_neg (fun z => hp ((nI_eq (by omega) (by omega)).mp z)), if_pos (inb_t (by omega) (by omega)), nI_clamp (by omega), hM.1 p hp2]
      cases hD : D p with
      | true =>
        have hgp := hM.2.2.1 p hp2 hD
        rw [if_pos rfl, if_neg (nI_m1 (by omega)), nI_1]
        obtain ⟨c, y, e1, e2, e3, e4, e5⟩ := ih (p + 1) st D g (by omega) (by omega) hO hM (fun q hq => by
          rcases Nat.lt_or_ge q p with z | z
          · exact hlt q z
          · rw [show q = p by omega]; exact hD)
        refine ⟨c, y, ?_, e2, e3, e4, e5⟩
        rw [e1, ob_s]
        dsimp only
        rw [if_pos]
        rcases e3 with e3 | e3 <;> rw [e3] <;> decide
      | false =>
        rw [if_neg (show ¬ false = true by decide), if_pos rfl]
        have key := lpv_inv (f := f_X12_canGo_33 (f_X12_canGo f) (nI p)) (fun to z => z.2 = nI to ∧ KG2 st z.1 ∧ PM z.1 w D g ∧ ∀ π, EXT w v D g π → to ≤ π p) w.1 (fun r => KG2 st r.2 ∧ ((r.1 = 0 ∧ ∃ π, EXT w v D g π) ∨ (r.1 = 1 ∧ PM r.2 w D g ∧ ¬ ∃ π, EXT w v D g π))) (fun to z hto hI => ?_) (fun z hI => ?_) 0 (st, 0) (Nat.zero_le _) ⟨rfl, KG2.rf, hM, fun _ _ => Nat.zero_le _⟩
        · obtain ⟨⟨r, y⟩, e1, e2, e3⟩ := key
          dsimp only at e2 e3
          rw [e1, ob_s]
          dsimp only
          rcases e3 with ⟨e3, e4⟩ | ⟨e3, e4, e5⟩
          · rw [if_pos e3]
            exact ⟨1, y, rfl, e2, Or.inr rfl, fun z => absurd z (by decide), fun _ => e4, fun _ => rfl⟩
          · rw [if_neg (by omega)]
            exact ⟨0, y, rfl, e2, Or.inl rfl, fun _ => e4, fun z => absurd z (by decide), fun z => absurd z e5⟩
        · obtain ⟨s, b⟩ := z
          obtain ⟨g1, g2, g3, g4⟩ := hI
          dsimp only at g1 g2 g3
          subst g1
          have hOs := hO.k g2
          have next : (∀ π, EXT w v D g π → ¬ π p = to) → ∀ π, EXT w v D g π → to + 1 ≤ π p := fun hno π h1 => by
            have := g4 π h1
            have := hno π h1
            omega
          by_cases hg : tb (s.2.1 37) to = true
          · left
            refine ⟨(s, nI (to + 1)), ?_, rfl, g2, g3, next (fun π h1 h2 => ?_)⟩
            · unfold f_X12_canGo_33
              dsimp only
              rw [hOs.1.1, if_neg (nI_ge hto (by omega)), has_12 (by omega), ob_s, hg, if_neg b2t]
              dsimp only [bnd]
              rw [nI_1]
            · obtain ⟨q, q1, q2, q3⟩ := (g3.2.1 to).mp hg
              have := h1.1.bj.2 q p q1 hp2 (by rw [h1.2 q q1 q2, q3, h2])
              rw [this, hD] at q2
              cases q2
          · have hnot : ∀ q, q < w.1 → D q = true → g q ≠ to := fun q q1 q2 q3 => hg ((g3.2.1 to).mpr ⟨q, q1, q2, q3⟩)
            obtain ⟨c1, x, a1, a2, a3, a4, a5⟩ := goes_12 hOs g3 hp2 hD hto hnot
            have hst : f_X12_canGo_33 (f_X12_canGo f) (nI p) (s, nI to) = if c1 = 0 then (f_X12_backs x (nI p)).bind (fun x14 => some (.inl (x14, nI (to + 1)))) else (f_X12_canGo f x (nI (p + 1))).bind (fun x19 => if x19.1 = 0 then (f_X12_backs x19.2 (nI p)).bind (fun x24 => some (.inl (x24, nI (to + 1)))) else some (.inr (0, x19.2))) := by
              unfold f_X12_canGo_33
              dsimp only
              rw [hOs.1.1, if_neg (nI_ge hto (by omega)), has_12 (by omega), ob_s, Bool.eq_false_iff.mpr hg, if_pos b2f, a1, ob_s]
              dsimp only [bnd]
              rw [nI_1, nI_1]
            have hM0 := g3.2.2
            rcases a4 with a4 | a4
            · left
              obtain ⟨y, b1, b2, b3⟩ := backs_12 hN hp2 hD hM0 a3
              refine ⟨(y, nI (to + 1)), by rw [hst, if_pos a4, b1, ob_s], rfl, (g2.tr a2).tr b2, b3, next (fun π h1 h2 => ?_)⟩
              have h3 := ext_up (p := p) h1
              rw [h2] at h3
              have := a5 π h3
              rw [a4] at this
              exact absurd this (by decide)
            · obtain ⟨c2, y, d1, d2, d3, d4, d5⟩ := ih (p + 1) x _ _ (by omega) (by omega) (hOs.k a2) a3 (fun q hq => by
                rcases Nat.lt_or_ge q p with z | z
                · rw [upB_n (by omega)]; exact hlt q z
                · rw [show q = p by omega]; exact upB_s)
              rcases d3 with d3 | d3
              · left
                obtain ⟨u, b1, b2, b3⟩ := backs_12 hN hp2 hD hM0 (d4 d3)
                refine ⟨(u, nI (to + 1)), by rw [hst, if_neg (by rw [a4]; decide), d1, ob_s]; dsimp only; rw [if_pos d3, b1, ob_s], rfl, ((g2.tr a2).tr d2).tr b2, b3, next (fun π h1 h2 => ?_)⟩
                have h3 := ext_up (p := p) h1
                rw [h2] at h3
                have := d5.mpr ⟨π, h3⟩
                rw [d3] at this
                exact absurd this (by decide)
              · right
                obtain ⟨π, h3⟩ := d5.mp d3
                exact ⟨(0, y), by rw [hst, if_neg (by rw [a4]; decide), d1, ob_s]; dsimp only; rw [if_neg (by rw [d3]; decide)], (g2.tr a2).tr d2, Or.inl ⟨rfl, π, ext_dn hD h3⟩⟩
        · obtain ⟨s, b⟩ := z
          obtain ⟨g1, g2, g3, g4⟩ := hI
          dsimp only at g1 g2 g3
          subst g1
          refine ⟨(1, s), ?_, g2, Or.inr ⟨rfl, g3, fun ⟨π, h⟩ => ?_⟩⟩
          · unfold f_X12_canGo_33
            dsimp only
            rw [(hO.k g2).1.1, if_pos (nI_le (Nat.le_refl _) (by omega))]
          · have := g4 π h
            have := h.1.bj.1 p hp2
            omega
end TGO
