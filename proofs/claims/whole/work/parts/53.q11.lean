/-! questions: rank over 2: what rows span -/
def Cl (P : Int64 → Prop) (x : Int64) : Prop := ∀ S : Int64 → Prop, S 0 → (∀ a b, S a → S b → S (a ^^^ b)) → (∀ e, P e → S e) → S x
theorem Cl.z {P : Int64 → Prop} : Cl P 0 := fun _ h _ _ => h
theorem Cl.x {P : Int64 → Prop} {a b : Int64} (ha : Cl P a) (hb : Cl P b) : Cl P (a ^^^ b) := fun S h1 h2 h3 => h2 a b (ha S h1 h2 h3) (hb S h1 h2 h3)
theorem Cl.g {P : Int64 → Prop} {e : Int64} (h : P e) : Cl P e := fun _ _ _ h3 => h3 e h
theorem Cl.sub {P Q : Int64 → Prop} {x : Int64} (hx : Cl P x) (h : ∀ e, P e → Cl Q e) : Cl Q x := hx (Cl Q) Cl.z (fun _ _ => Cl.x) h
theorem Cl.sum {P : Int64 → Prop} {f : Nat → Int64} : ∀ {n : Nat}, (∀ i, i < n → Cl P (f i)) → Cl P (xorT f n) := by
  intro n
  induction n with
  | zero => intro _; exact Cl.z
  | succ n ih => intro h; exact Cl.x (ih (fun i hi => h i (by omega))) (h n (by omega))
def FG (E : Nat → Int64) (d : Nat) (e : Int64) : Prop := ∃ i, i < d ∧ e = E i
theorem xorT_x (f g : Nat → Int64) : ∀ n, xorT f n ^^^ xorT g n = xorT (fun i => f i ^^^ g i) n := by
  intro n
  induction n with
  | zero => exact xaa 0
  | succ n ih =>
    simp only [xorT]
    rw [← ih]
    refine tb_ext (fun i _ => ?_)
    simp only [tb_xor]
    cases tb (xorT f n) i <;> cases tb (f n) i <;> cases tb (xorT g n) i <;> cases tb (g n) i <;> rfl
theorem xorT_0 {f : Nat → Int64} {n : Nat} (h : ∀ i, i < n → f i = 0) : xorT f n = 0 := tb_ext (fun i _ => by
  rw [tb_0]; exact tb_xorT0 (fun k hk => by rw [h k hk, tb_0]))
theorem ifx (a b : Bool) (v : Int64) : ((if a = true then v else 0) ^^^ (if b = true then v else 0)) = if (a ^^ b) = true then v else 0 := by
  cases a <;> cases b
  · exact xaa 0
  · exact x00 _
  · exact x0 _
  · exact xaa _
theorem Cl_comb {E : Nat → Int64} {d : Nat} {x : Int64} (h : Cl (FG E d) x) : ∃ c, x = wvG E d c := by
  refine h (fun x => ∃ c, x = wvG E d c) ⟨fun _ => false, ?_⟩ ?_ ?_
  · unfold wvG
    rw [xorT_0 (fun i _ => if_neg Bool.false_ne_true)]
  · rintro a b ⟨c, rfl⟩ ⟨e, rfl⟩
    refine ⟨fun i => c i ^^ e i, ?_⟩
    unfold wvG
    rw [xorT_x]
    exact xorT_cong (fun i _ => ifx (c i) (e i) (E i))
  · rintro e ⟨i, hi, rfl⟩
    refine ⟨fun j => decide (j = i), ?_⟩
    unfold wvG
    rw [xorT_upd (fun j => if decide (j = i) = true then E j else 0) (fun _ => 0) hi (fun j _ hj => if_neg (by simp [hj])), xorT_0 (fun _ _ => rfl), if_pos (decide_eq_true rfl), x00, x00]
theorem arg_min {P : Nat → Prop} {f : Nat → Nat} : ∀ (v i : Nat), P i → f i ≤ v → ∃ i, P i ∧ ∀ j, P j → f i ≤ f j := by
  intro v
  induction v with
  | zero => intro i hi hv; exact ⟨i, hi, fun j _ => by omega⟩
  | succ v ih =>
    intro i hi hv
    by_cases h : ∃ j, P j ∧ f j ≤ v
    · obtain ⟨j, h1, h2⟩ := h
      exact ih j h1 h2
    · exact ⟨i, hi, fun j hj => by
        rcases Nat.lt_or_ge v (f j) with q | q
        · omega
        · exact absurd ⟨j, hj, q⟩ h⟩
/-- rows of which no two begin alike -/
def DL (E : Nat → Int64) (d : Nat) : Prop := ∀ i j, i < d → j < d → E i ≠ 0 → E j ≠ 0 → low (E i) = low (E j) → i = j
theorem comb_low {E : Nat → Int64} {d : Nat} (hE : DL E d) {c : Nat → Bool} (hx : wvG E d c ≠ 0) : ∃ i, i < d ∧ E i ≠ 0 ∧ low (E i) = low (wvG E d c) := by
  have hex : ∃ i, i < d ∧ c i = true ∧ E i ≠ 0 := by
    false_or_by_contra
    rename_i hn
    apply hx
    unfold wvG
    refine xorT_0 (fun i hi => ?_)
    by_cases q : c i = true
    · rw [if_pos q]
      false_or_by_contra
      rename_i z
      exact hn ⟨i, hi, q, z⟩
    · rw [if_neg q]
  obtain ⟨i0, h0⟩ := hex
  obtain ⟨i, ⟨i1, i2, i3⟩, i4⟩ := arg_min (P := fun i => i < d ∧ c i = true ∧ E i ≠ 0) (f := fun i => low (E i)) (low (E i0)) i0 h0 (Nat.le_refl _)
  obtain ⟨l1, l2, l3⟩ := low_tb i3
  refine ⟨i, i1, i3, (low_eq ?_ (fun j hj => ?_)).symm⟩
  · unfold wvG
    rw [xorT_upd (fun j => if c j = true then E j else 0) (fun j => if j = i then 0 else if c j = true then E j else 0) i1 (fun j _ hj => by rw [if_neg hj]), tb_xor, tb_xorT0 (fun j hj => by
      by_cases q : j = i
      · rw [if_pos q, tb_0]
      · rw [if_neg q]
        by_cases hb : c j = true
        · rw [if_pos hb]
          by_cases hz : E j = 0
          · rw [hz, tb_0]
          · have h5 := i4 j ⟨hj, hb, hz⟩
            refine (low_tb hz).2.2 _ ?_
            rcases Nat.lt_or_ge (low (E i)) (low (E j)) with g | g
            · exact g
            · exact absurd (hE j i hj i1 hz i3 (by omega)) q
        · rw [if_neg hb, tb_0]), if_pos rfl, if_pos i2, x00, l1]
    rfl
  · refine tb_xorT0 (fun k hk => ?_)
    by_cases hb : c k = true
    · rw [if_pos hb]
      by_cases hz : E k = 0
      · rw [hz, tb_0]
      · have h5 := i4 k ⟨hk, hb, hz⟩
        exact (low_tb hz).2.2 _ (by omega)
    · rw [if_neg hb, tb_0]
theorem cnt_rel {p : Nat → Bool} {m : Nat} {R : Nat → Nat → Prop} : ∀ (n : Nat) (q : Nat → Bool), (∀ i, i < n → p i = true → ∃ j, j < m ∧ q j = true ∧ R i j) → (∀ i k j, i < n → k < n → p i = true → p k = true → R i j → R k j → i = k) → cnt p n ≤ cnt q m := by
  intro n
  induction n with
  | zero => intro q _ _; exact Nat.zero_le _
  | succ n ih =>
    intro q h1 h2
    rw [cnt_s]
    by_cases hp : p n = true
    · rw [if_pos hp]
      obtain ⟨j, j1, j2, j3⟩ := h1 n (by omega) hp
      have := ih (fun i => q i && decide (i ≠ j)) (fun i hi hpi => by
        obtain ⟨k, k1, k2, k3⟩ := h1 i (by omega) hpi
        refine ⟨k, k1, ?_, k3⟩
        rw [k2, Bool.true_and]
        refine decide_eq_true (fun z => ?_)
        subst z
        have := h2 i n k (by omega) (by omega) hpi hp k3 j3
        omega) (fun i k j hi hk => h2 i k j (by omega) (by omega))
      have := cnt_del j2 j1
      omega
    · rw [if_neg hp, Nat.add_zero]
      exact ih q (fun i hi => h1 i (by omega)) (fun i k j hi hk => h2 i k j (by omega) (by omega))
theorem span_le {E F : Nat → Int64} {d e : Nat} (hE : DL E d) (hF : DL F e) (h : ∀ i, i < d → Cl (FG F e) (E i)) : cnt (fun i => decide (E i ≠ 0)) d ≤ cnt (fun i => decide (F i ≠ 0)) e := by
  refine cnt_rel (R := fun i j => low (E i) = low (F j)) d _ (fun i hi hp => ?_) (fun i k j hi hk h1 h2 h3 h4 => hE i k hi hk (of_decide_eq_true h1) (of_decide_eq_true h2) (h3.trans h4.symm))
  obtain ⟨c, hc⟩ := Cl_comb (h i hi)
  have hz := of_decide_eq_true hp
  rw [hc] at hz
  obtain ⟨j, j1, j2, j3⟩ := comb_low hF hz
  exact ⟨j, j1, decide_eq_true j2, by rw [hc]; exact j3.symm⟩
/-! the class's rows -/
theorem rowsF_cl {w : Wd} (hW : WFw w) (hn : w.1 ≤ 64) : ∀ i, i ≤ w.2.length → (∀ c, c < 64 → Cl (FG (wl w.2) i) (rowsF w.2 i c)) ∧ ∀ j, j < i → Cl (FG (rowsF w.2 i) 64) (wl w.2 j) := by
  intro i
  induction i with
  | zero => intro _; exact ⟨fun c _ => Cl.z, fun j hj => by omega⟩
  | succ i ih =>
    intro hi
    obtain ⟨h1, h2⟩ := ih (by omega)
    have hR := rowsF_RI hW hn i (by omega)
    have up : ∀ x, Cl (FG (wl w.2) i) x → Cl (FG (wl w.2) (i + 1)) x := fun x hx => hx.sub (fun e ⟨j, hj, he⟩ => Cl.g ⟨j, by omega, he⟩)
    have hs : ∀ Q, (∀ c, c < 64 → Cl Q (rowsF w.2 i c)) → Cl Q (xorT (fun c => if tb (wl w.2 i) c = true then rowsF w.2 i c else 0) 64) := fun Q hQ => Cl.sum (fun c hc => by
      by_cases hb : tb (wl w.2 i) c = true
      · rw [if_pos hb]; exact hQ c hc
      · rw [if_neg hb]; exact Cl.z)
    have he : ∀ Q, Cl Q (rdc (rowsF w.2 i) (wl w.2 i)) → (∀ c, c < 64 → Cl Q (rowsF w.2 i c)) → Cl Q (wl w.2 i) := fun Q q1 q2 => by
      have := Cl.x q1 (hs Q q2)
      unfold rdc at this
      rw [xas, xaa, x0] at this
      exact this
    by_cases hz : rdc (rowsF w.2 i) (wl w.2 i) = 0
    · have e : rowsF w.2 (i + 1) = rowsF w.2 i := by simp only [rowsF, if_pos hz]
      rw [e]
      refine ⟨fun c hc => up _ (h1 c hc), fun j hj => ?_⟩
      rcases Nat.lt_or_ge j i with q | q
      · exact h2 j q
      · rw [show j = i by omega]
        exact he _ (by rw [hz]; exact Cl.z) (fun c hc => Cl.g ⟨c, hc, rfl⟩)
    · have e : rowsF w.2 (i + 1) = rAdd (rowsF w.2 i) (rdc (rowsF w.2 i) (wl w.2 i)) := by simp only [rowsF, if_neg hz]
      have hx : Cl (FG (wl w.2) (i + 1)) (rdc (rowsF w.2 i) (wl w.2 i)) := by
        unfold rdc
        exact Cl.x (Cl.g ⟨i, by omega, rfl⟩) (hs _ (fun c hc => up _ (h1 c hc)))
      have hlo := (low_tb hz).2.1
      have gx : Cl (FG (rAdd (rowsF w.2 i) (rdc (rowsF w.2 i) (wl w.2 i))) 64) (rdc (rowsF w.2 i) (wl w.2 i)) := Cl.g ⟨low (rdc (rowsF w.2 i) (wl w.2 i)), hlo, by unfold rAdd; rw [if_pos rfl]⟩
      have gr : ∀ c, c < 64 → Cl (FG (rAdd (rowsF w.2 i) (rdc (rowsF w.2 i) (wl w.2 i))) 64) (rowsF w.2 i c) := fun c hc => by
        have hg : Cl (FG (rAdd (rowsF w.2 i) (rdc (rowsF w.2 i) (wl w.2 i))) 64) (rAdd (rowsF w.2 i) (rdc (rowsF w.2 i) (wl w.2 i)) c) := Cl.g ⟨c, hc, rfl⟩
        by_cases q : c = low (rdc (rowsF w.2 i) (wl w.2 i))
        · rw [q, low_ne hR hz (fun c hc => rdc_lead hR _ hc)]
          exact Cl.z
        · by_cases hb : tb (rowsF w.2 i c) (low (rdc (rowsF w.2 i) (wl w.2 i))) = true
          · have h3 := Cl.x hg gx
            unfold rAdd at h3 ⊢
            rw [if_neg q, if_pos hb, xas, xaa, x0] at h3
            exact h3
          · unfold rAdd at hg ⊢
            rw [if_neg q, if_neg hb] at hg
            exact hg
      rw [e]
      refine ⟨fun c hc => ?_, fun j hj => ?_⟩
      · unfold rAdd
        by_cases q : c = low (rdc (rowsF w.2 i) (wl w.2 i))
        · rw [if_pos q]; exact hx
        · rw [if_neg q]
          by_cases hb : tb (rowsF w.2 i c) (low (rdc (rowsF w.2 i) (wl w.2 i))) = true
          · rw [if_pos hb]; exact Cl.x (up _ (h1 c hc)) hx
          · rw [if_neg hb]; exact up _ (h1 c hc)
      · rcases Nat.lt_or_ge j i with q | q
        · exact (h2 j q).sub (fun e ⟨c, hc, h⟩ => by rw [h]; exact gr c hc)
        · rw [show j = i by omega]
          exact he _ gx gr
theorem rowsF_DL {w : Wd} (hW : WFw w) (hn : w.1 ≤ 64) : DL (rowsF w.2 w.2.length) 64 := fun i j _ _ h1 h2 h3 => by
  have hR := rowsF_RI hW hn w.2.length (Nat.le_refl _)
  rw [(hR.1 i h1).2.2.1, (hR.1 j h2).2.2.1] at h3
  exact h3
/-! the reference's rows -/
def rsT (T : Nat → Nat → Nat) (n l : Nat) : Int64 := orT (fun i => if T l i = 1 then bit1 i else 0) n
theorem tb_rs {T : Nat → Nat → Nat} {n l i : Nat} (hn : n ≤ 64) : tb (rsT T n l) i = true ↔ i < n ∧ T l i = 1 := by
  unfold rsT
  rw [tb_orT]
  constructor
  · intro ⟨j, hj, h⟩
    by_cases hb : T l j = 1
    · rw [if_pos hb, tb_bit1 (by omega)] at h
      have := of_decide_eq_true h
      subst this
      exact ⟨hj, hb⟩
    · rw [if_neg hb, tb_0] at h
      cases h
  · intro ⟨h1, h2⟩
    exact ⟨i, h1, by rw [if_pos h2, tb_bit1 (by omega)]; exact decide_eq_true rfl⟩
def sgm (r l o : Nat) : Nat := if o = r then l else if o = l then r else o
theorem rs_step {T : Nat → Nat → Nat} {m n r l k : Nat} (hn : n ≤ 64) (hT : ∀ l i, l < m → i < n → T l i < 2) (hr : r < m) (hl : l < m) (hk : k < n) {o : Nat} (ho : o < m) : rsT (elT 2 (swT 2 T r l 1) r k) n o = rsT T n (sgm r l o) ^^^ (if r < o ∧ T (sgm r l o) k = 1 then rsT T n l else 0) := by
  have hs : sgm r l o < m := by
    unfold sgm
    split
    · exact hl
    · split
      · exact hr
      · exact ho
  have hsw : ∀ a i, a < m → i < n → swT 2 T r l 1 a i = T (sgm r l a) i := fun a i ha hi => by
    unfold swT sgm
    by_cases q : a = r
    · rw [if_pos q, if_pos q, Nat.mul_one, Nat.mod_eq_of_lt (hT l i hl hi)]
    · rw [if_neg q, if_neg q]
      by_cases q2 : a = l
      · rw [if_pos q2, if_pos q2]
      · rw [if_neg q2, if_neg q2]
  have hsr : sgm r l r = l := if_pos rfl
  refine tb_ext (fun i _ => ?_)
  rw [tb_xor]
  by_cases hi : i < n
  · have key : ∀ (T : Nat → Nat → Nat) (a : Nat), tb (rsT T n a) i = decide (T a i = 1) := fun T a => by
      rw [Bool.eq_iff_iff, tb_rs hn]
      simp [hi]
    have h1 := hT _ i hs hi
    have h2 := hT _ k hs hk
    have h3 := hT l i hl hi
    rw [key, key]
    by_cases hro : r < o
    · have e : elT 2 (swT 2 T r l 1) r k o i = (T (sgm r l o) i + (2 - T (sgm r l o) k) * T l i) % 2 := by
        unfold elT
        rw [if_pos hro, hsw o i ho hi, hsw o k ho hk, hsw r i hr hi, hsr]
      rw [e]
      by_cases hb : T (sgm r l o) k = 1
      · rw [if_pos ⟨hro, hb⟩, key, hb]
        generalize T (sgm r l o) i = a at h1
        generalize T l i = b at h3
        revert h1 h3
        revert a b
        intro a b
        intro h1 h3
        rcases (by omega : a = 0 ∨ a = 1) with rfl | rfl <;> rcases (by omega : b = 0 ∨ b = 1) with rfl | rfl <;> rfl
      · rw [if_neg (fun c => hb c.2), tb_0, show T (sgm r l o) k = 0 by omega, Bool.xor_false]
        rw [Nat.sub_zero, Nat.add_mul_mod_self_left, Nat.mod_eq_of_lt h1]
    · have e : elT 2 (swT 2 T r l 1) r k o i = T (sgm r l o) i := by
        unfold elT
        rw [if_neg hro, hsw o i ho hi]
      rw [e, if_neg (fun c => hro c.1), tb_0, Bool.xor_false]
  · have key : ∀ (T : Nat → Nat → Nat) (a : Nat), tb (rsT T n a) i = false := fun T a => eq_false_of_ne_true (fun z => hi ((tb_rs hn).mp z).1)
    rw [key, key]
    by_cases hb : r < o ∧ T (sgm r l o) k = 1
    · rw [if_pos hb, key]; rfl
    · rw [if_neg hb, tb_0]; rfl
theorem cnt_below {r : Nat} : ∀ {m : Nat}, r ≤ m → cnt (fun i => decide (i < r)) m = r := by
  intro m
  induction m with
  | zero => intro h; rw [show r = 0 by omega]; rfl
  | succ m ih =>
    intro h
    rw [cnt_s]
    by_cases q : m < r
    · rw [if_pos (decide_eq_true q), cnt_cong (q := fun i => decide (i < m)) (fun i hi => by simp [hi]; omega)]
      have : cnt (fun i => decide (i < m)) m = m := by
        rcases Nat.lt_or_ge r (m + 1) with g | g
        · omega
        · have e : cnt (fun i => decide (i < m)) m = cnt (fun _ => true) m := cnt_cong (fun i hi => by simp [hi])
          rw [e]
          clear ih h q e g
          induction m with
          | zero => rfl
          | succ m ih => rw [cnt_s, ih]; rfl
      omega
    · rw [if_neg (by simp; omega), Nat.add_zero, ih (by omega)]
section RK2
variable {st : OS} {w : Wd}
/-- columns before k are done with r rows -/
def PV (T : Nat → Nat → Nat) (m n r k : Nat) : Prop := (∀ j, j < r → rsT T n j ≠ 0 ∧ low (rsT T n j) < k) ∧ (∀ i j, i < r → j < r → low (rsT T n i) = low (rsT T n j) → i = j) ∧ ∀ l, r ≤ l → l < m → ∀ i, i < k → T l i = 0
def SP (w : Wd) (T : Nat → Nat → Nat) : Prop := (∀ l, l < w.2.length → Cl (FG (wl w.2) w.2.length) (rsT T w.1 l)) ∧ ∀ j, j < w.2.length → Cl (FG (rsT T w.1) w.2.length) (wl w.2 j)
theorem pv_none {T : Nat → Nat → Nat} {m n r k : Nat} (h : PV T m n r k) (h0 : ∀ l, r ≤ l → l < m → T l k = 0) : PV T m n r (k + 1) :=
  ⟨fun j hj => ⟨(h.1 j hj).1, by have := (h.1 j hj).2; omega⟩, h.2.1, fun l l1 l2 i hi => by
    rcases Nat.lt_or_ge i k with q | q
    · exact h.2.2 l l1 l2 i q
    · rw [show i = k by omega]; exact h0 l l1 l2⟩
theorem pv_step {T : Nat → Nat → Nat} {m n r l k : Nat} (hn : n ≤ 64) (hT : ∀ l i, l < m → i < n → T l i < 2) (h : PV T m n r k) (hr : r < m) (h1 : r ≤ l) (hl : l < m) (hk : k < n) (h0 : T l k = 1) (hmin : ∀ j, r ≤ j → j < l → T j k = 0) : PV (elT 2 (swT 2 T r l 1) r k) m n (r + 1) (k + 1) := by
  have st1 : ∀ {o : Nat}, o < m → _ := fun {o} ho => rs_step hn hT hr hl hk (o := o) ho
  have hlow : rsT T n l ≠ 0 ∧ low (rsT T n l) = k := by
    have h2 : tb (rsT T n l) k = true := (tb_rs hn).mpr ⟨hk, h0⟩
    refine ⟨fun z => absurd h2 (by rw [z, tb_0]; decide), low_eq h2 (fun j hj => eq_false_of_ne_true (fun z => ?_))⟩
    have := (tb_rs hn).mp z
    rw [h.2.2 l h1 hl j hj] at this
    exact absurd this.2 (by decide)
  have hlt : ∀ j, j < r → rsT (elT 2 (swT 2 T r l 1) r k) n j = rsT T n j := fun j hj => by
    rw [st1 (by omega), if_neg (fun c => by omega), x0]
    unfold sgm
    rw [if_neg (by omega), if_neg (by omega)]
  have hrr : rsT (elT 2 (swT 2 T r l 1) r k) n r = rsT T n l := by
    rw [st1 hr, if_neg (fun c => by omega), x0]
    unfold sgm
    rw [if_pos rfl]
  refine ⟨fun j hj => ?_, fun i j hi hj e => ?_, fun o o1 o2 i hi => ?_⟩
  · rcases Nat.lt_or_ge j r with q | q
    · rw [hlt j q]
      exact ⟨(h.1 j q).1, by have := (h.1 j q).2; omega⟩
    · rw [show j = r by omega, hrr]
      exact ⟨hlow.1, by omega⟩
  · rcases Nat.lt_or_ge i r with q | q <;> rcases Nat.lt_or_ge j r with q2 | q2
    · rw [hlt i q, hlt j q2] at e
      exact h.2.1 i j q q2 e
    · rw [hlt i q, show j = r by omega, hrr, hlow.2] at e
      have := (h.1 i q).2
      omega
    · rw [hlt j q2, show i = r by omega, hrr, hlow.2] at e
      have := (h.1 j q2).2
      omega
    · omega
  · have hT' : elT 2 (swT 2 T r l 1) r k o i < 2 := by
      unfold elT
      rw [if_pos (by omega)]
      exact Nat.mod_lt _ (by decide)
    have hne : ¬ elT 2 (swT 2 T r l 1) r k o i = 1 := fun z => by
      have hb : tb (rsT (elT 2 (swT 2 T r l 1) r k) n o) i = true := (tb_rs hn).mpr ⟨by omega, z⟩
      rw [st1 o2, tb_xor] at hb
      have hs1 : r ≤ sgm r l o ∧ sgm r l o < m := by
        unfold sgm
        split
        · omega
        · split <;> omega
      rcases Nat.lt_or_ge i k with q | q
      · have z1 : tb (rsT T n (sgm r l o)) i = false := eq_false_of_ne_true (fun z => by
          have := ((tb_rs hn).mp z).2
          rw [h.2.2 _ hs1.1 hs1.2 i q] at this
          cases this)
        have z2 : tb (rsT T n l) i = false := eq_false_of_ne_true (fun z => by
          have := ((tb_rs hn).mp z).2
          rw [h.2.2 l h1 hl i q] at this
          cases this)
        rw [z1] at hb
        by_cases c : r < o ∧ T (sgm r l o) k = 1
        · rw [if_pos c, z2] at hb; cases hb
        · rw [if_neg c, tb_0] at hb; cases hb
      · have hik : i = k := by omega
        rw [hik] at hb
        have z2 : tb (rsT T n l) k = true := (tb_rs hn).mpr ⟨hk, h0⟩
        by_cases c : T (sgm r l o) k = 1
        · rw [if_pos ⟨by omega, c⟩, z2, (tb_rs hn).mpr ⟨hk, c⟩] at hb
          cases hb
        · rw [if_neg (fun d => c d.2), tb_0, eq_false_of_ne_true (fun z => c ((tb_rs hn).mp z).2)] at hb
          cases hb
    omega
theorem sp_step {T : Nat → Nat → Nat} {r l k : Nat} (hn : w.1 ≤ 64) (hT : ∀ l i, l < w.2.length → i < w.1 → T l i < 2) (h : SP w T) (hr : r < w.2.length) (hl : l < w.2.length) (hk : k < w.1) : SP w (elT 2 (swT 2 T r l 1) r k) := by
  have st1 : ∀ {o : Nat}, o < w.2.length → _ := fun {o} ho => rs_step hn hT hr hl hk (o := o) ho
  have hs : ∀ o, o < w.2.length → sgm r l o < w.2.length := fun o ho => by
    unfold sgm
    split
    · exact hl
    · split
      · exact hr
      · exact ho
  have hss : ∀ o, sgm r l (sgm r l o) = o := fun o => by
    unfold sgm
    by_cases q : o = r
    · rw [if_pos q]
      by_cases q2 : l = r
      · rw [if_pos q2]; omega
      · rw [if_neg q2, if_pos rfl]; omega
    · rw [if_neg q]
      by_cases q2 : o = l
      · rw [if_pos q2, if_pos rfl]; omega
      · rw [if_neg q2, if_neg q, if_neg q2]
  have hrr : rsT (elT 2 (swT 2 T r l 1) r k) w.1 r = rsT T w.1 l := by
    rw [st1 hr, if_neg (fun c => by omega), x0]
    unfold sgm
    rw [if_pos rfl]
  have hl2 : Cl (FG (rsT (elT 2 (swT 2 T r l 1) r k) w.1) w.2.length) (rsT T w.1 l) := by
    rw [← hrr]; exact Cl.g ⟨r, hr, rfl⟩
  refine ⟨fun o ho => ?_, fun j hj => (h.2 j hj).sub (fun e ⟨s, s1, s2⟩ => ?_)⟩
  · rw [st1 ho]
    refine Cl.x (h.1 _ (hs o ho)) ?_
    by_cases c : r < o ∧ T (sgm r l o) k = 1
    · rw [if_pos c]; exact h.1 l hl
    · rw [if_neg c]; exact Cl.z
  · subst s2
    have h3 := st1 (hs s s1)
    rw [hss] at h3
    have h4 : rsT T w.1 s = rsT (elT 2 (swT 2 T r l 1) r k) w.1 (sgm r l s) ^^^ (if r < sgm r l s ∧ T s k = 1 then rsT T w.1 l else 0) := by
      rw [h3, xas, xaa, x0]
    rw [h4]
    refine Cl.x (Cl.g ⟨_, hs s s1, rfl⟩) ?_
    by_cases c : r < sgm r l s ∧ T s k = 1
    · rw [if_pos c]; exact hl2
    · rw [if_neg c]; exact Cl.z
theorem sp_0 (hW : WFw w) (hn : w.1 ≤ 64) : SP w (T0 w) := by
  have e : ∀ l, l < w.2.length → rsT (T0 w) w.1 l = wl w.2 l := fun l hl => tb_ext (fun i _ => by
    rw [Bool.eq_iff_iff, tb_rs hn]
    unfold T0
    constructor
    · intro ⟨h1, h2⟩
      by_cases hb : tb (wl w.2 l) i = true
      · exact hb
      · rw [if_neg hb] at h2; cases h2
    · intro hb
      exact ⟨hW.pt hn hl hb, by rw [if_pos hb]⟩)
  exact ⟨fun l hl => by rw [e l hl]; exact Cl.g ⟨l, hl, rfl⟩, fun j hj => by rw [← e j hj]; exact Cl.g ⟨j, hj, rfl⟩⟩
theorem rank_2 (hW : WFw w) (h : RWo st w.1 w.2) : ∃ x, f_X12_rankOf st (nI 2) = some (nI (ldn (rowsF w.2 w.2.length)), x) ∧ Kp st x := by
  have hp : 2 ∈ [2, 3, 5, 7] := by decide
  have hn := h.2.2.1
  have hm := h.2.2.2.1
  obtain ⟨x0, a1, a2, a3⟩ := rk_fill h (p := 2) (by decide) (nI 2)
  have P : ∀ k, k ≤ w.1 → ∃ x T r, r ≤ w.2.length ∧ lpv (f_X12_rankOf_65 (nI 2)) (x0, 0, 0) = lpv (f_X12_rankOf_65 (nI 2)) (x, nI r, nI k) ∧ Kp st x ∧ TB (x.2.2.1 30) w.2.length w.1 2 T ∧ SP w T ∧ PV T w.2.length w.1 r k := by
    intro k
    induction k with
    | zero =>
      intro _
      exact ⟨x0, T0 w, 0, Nat.zero_le _, rfl, a2, a3, sp_0 hW hn, fun j hj => by omega, fun i j hi => by omega, fun l _ _ i hi => by omega⟩
    | succ k ih =>
      intro hk
      obtain ⟨x, T, r, r1, r2, r3, r4, r5, r6⟩ := ih (by omega)
      have hx := h.kp r3
      rcases Nat.lt_or_ge r w.2.length with q | q
      · rcases rk_step hx hp r4 q (show k < w.1 by omega) with ⟨s1, s2⟩ | ⟨l, t, y, s1, s2, s3, s4, s5, s6, s7, s8, s9⟩
        · exact ⟨x, T, r, r1, by rw [r2, lpv_in s2], r3, r4, r5, pv_none r6 s1⟩
        · have hTl := (r4 l k s2 (by omega)).2
          have ht : t = 1 := by
            rcases (by omega : t = 0 ∨ t = 1) with z | z
            · rw [z, Nat.zero_mul] at s6; cases s6
            · exact z
          subst ht
          exact ⟨y, _, r + 1, q, by rw [r2, lpv_in s7], Keep.tr r3 s8, s9, sp_step hn (fun l i a b => (r4 l i a b).2) r5 q s2 (by omega), pv_step hn (fun l i a b => (r4 l i a b).2) r6 q s1 s2 (by omega) (by omega) s4⟩
      · have hr : r = w.2.length := by omega
        exact ⟨x, T, r, r1, by rw [r2, r65_out hx r1 (by omega) (Or.inl hr), r65_out hx r1 hk (Or.inl hr)], r3, r4, r5, pv_none r6 (fun l l1 l2 => by omega)⟩
  obtain ⟨x, T, r, r1, r2, r3, r4, r5, r6⟩ := P w.1 (Nat.le_refl _)
  have hz : ∀ l, l < w.2.length → (rsT T w.1 l ≠ 0 ↔ l < r) := fun l hl => by
    constructor
    · intro z
      rcases Nat.lt_or_ge l r with q | q
      · exact q
      · refine absurd (tb_ext (fun i _ => ?_)) z
        rw [tb_0]
        refine eq_false_of_ne_true (fun c => ?_)
        have := (tb_rs hn).mp c
        rw [r6.2.2 l q hl i this.1] at this
        exact absurd this.2 (by decide)
    · intro q
      exact (r6.1 l q).1
  have hD : DL (rsT T w.1) w.2.length := fun i j hi hj h1 h2 h3 => r6.2.1 i j ((hz i hi).mp h1) ((hz j hj).mp h2) h3
  have hc := rowsF_cl hW hn w.2.length (Nat.le_refl _)
  have h1 := span_le hD (rowsF_DL hW hn) (fun l hl => (r5.1 l hl).sub (fun e ⟨j, j1, j2⟩ => by rw [j2]; exact hc.2 j j1))
  have h2 := span_le (rowsF_DL hW hn) hD (fun c hc' => (hc.1 c hc').sub (fun e ⟨j, j1, j2⟩ => by rw [j2]; exact r5.2 j j1))
  have h3 : cnt (fun i => decide (rsT T w.1 i ≠ 0)) w.2.length = r := by
    rw [cnt_cong (q := fun i => decide (i < r)) (fun i hi => by
      by_cases q : i < r
      · rw [decide_eq_true q, decide_eq_true ((hz i hi).mpr q)]
      · rw [decide_eq_false q, decide_eq_false (fun c => q ((hz i hi).mp c))]), cnt_below r1]
  have h4 : r = ldn (rowsF w.2 w.2.length) := by unfold ldn; omega
  refine ⟨x, ?_, r3⟩
  unfold f_X12_rankOf
  rw [a1, ob_s, r2, r65_out (h.kp r3) r1 (Nat.le_refl _) (Or.inr rfl), ob_s, h4]
theorem rank_any (hW : WFw w) (h : RWo st w.1 w.2) {p : Nat} (hp : p ∈ [2, 3, 5, 7]) : ∃ v x, f_X12_rankOf st (nI p) = some (nI v, x) ∧ Kp st x ∧ ∀ stn scr, CW stn w → ∃ z, f_X4_rankOver scr stn (nI p) = some (nI v, z) := by
  by_cases q : p = 2
  · subst q
    obtain ⟨x, e, k⟩ := rank_2 hW h
    refine ⟨_, x, e, k, fun stn scr hw => ?_⟩
    obtain ⟨z, g, _⟩ := reduce_4 hw hW scr
    refine ⟨z, ?_⟩
    unfold f_X4_rankOver
    rw [if_pos (show nI 2 = 2 from rfl), g, ob_s]
  · exact rank_o hp q h
theorem q_rank (hW : WFw w) (h : RWo st w.1 w.2) (a0 : Int32) : ∃ k : Nat ⊕ Int32, (∀ stt stn scr, CW stn w → ∃ x, f_X11_rank stt stn scr a0 = some (match k with | .inl j => .inl j | .inr v => .inr (v, x))) ∧ ∃ v x, f_X12_rank st a0 = some (v, x) ∧ Kt st x ∧ QA 1 k v x := by
  have key : ∀ p, p ∈ [2, 3, 5, 7] → (∀ t : OS, t.1 2 = 0 → (if (t.1 2) ≤ 0 then (f_X12_rankOf t (nI p)).bind (fun x5 => match x5 with | (v7, t8) => some ((v7, t8))) else some ((0, t))) = f_X12_rankOf t (nI p)) := fun p _ t ht => by
    rw [ht, if_pos (by decide)]
    cases f_X12_rankOf t (nI p) with
    | none => rfl
    | some y => rfl
  by_cases hp : a0 = 2 ∨ a0 = 3 ∨ a0 = 5 ∨ a0 = 7
  · have hpp : ∃ p, p ∈ [2, 3, 5, 7] ∧ a0 = nI p := by
      rcases hp with z | z | z | z
      · exact ⟨2, by decide, z⟩
      · exact ⟨3, by decide, z⟩
      · exact ⟨5, by decide, z⟩
      · exact ⟨7, by decide, z⟩
    obtain ⟨p, hp1, rfl⟩ := hpp
    obtain ⟨v, x, e, k, g⟩ := rank_any (st := oI st 2 0) hW (h.th 0) hp1
    refine ⟨.inr (nI v), fun stt stn scr hw => ?_, nI v, x, ?_, Kt.p k, Or.inr ⟨rfl, k.v⟩⟩
    · obtain ⟨z, hz⟩ := g stn scr hw
      refine ⟨z, ?_⟩
      unfold f_X11_rank
      rw [hz, ob_s]
      rcases hp with z | z | z | z
      · rw [if_pos z]
      · rw [if_neg (by rw [z]; decide), if_pos z]
      · rw [if_neg (by rw [z]; decide), if_neg (by rw [z]; decide), if_pos z]
      · rw [if_neg (by rw [z]; decide), if_neg (by rw [z]; decide), if_neg (by rw [z]; decide), if_pos z]
    · unfold f_X12_rank
      dsimp only [bnd]
      rw [key p hp1 _ th_v]
      rcases hp with z | z | z | z
      · rw [if_pos z]; exact e
      · rw [if_neg (by rw [z]; decide), if_pos z]; exact e
      · rw [if_neg (by rw [z]; decide), if_neg (by rw [z]; decide), if_pos z]; exact e
      · rw [if_neg (by rw [z]; decide), if_neg (by rw [z]; decide), if_neg (by rw [z]; decide), if_pos z]; exact e
  · have n2 : ¬ a0 = 2 := fun z => hp (Or.inl z)
    have n3 : ¬ a0 = 3 := fun z => hp (Or.inr (Or.inl z))
    have n5 : ¬ a0 = 5 := fun z => hp (Or.inr (Or.inr (Or.inl z)))
    have n7 : ¬ a0 = 7 := fun z => hp (Or.inr (Or.inr (Or.inr z)))
    refine ⟨.inl 1, fun stt stn scr hw => ⟨scr, ?_⟩, 0, oI st 2 1, ?_, Kt.thr 1, Or.inl ⟨rfl, th_v⟩⟩
    · unfold f_X11_rank
      rw [if_neg n2, if_neg n3, if_neg n5, if_neg n7]
    · unfold f_X12_rank
      rw [if_neg n2, if_neg n3, if_neg n5, if_neg n7]
      dsimp only [bnd]
      rw [th_v, if_neg (by decide)]
end RK2
