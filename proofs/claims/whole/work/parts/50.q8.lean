/-! questions: rank, the reference -/
def TB (a : Nat → Int32) (m n p : Nat) (T : Nat → Nat → Nat) : Prop := ∀ l i, l < m → i < n → a (64 * l + i) = nI (T l i) ∧ T l i < p
def T0 (w : Wd) (l i : Nat) : Nat := if tb (wl w.2 l) i = true then 1 else 0
def swT (p : Nat) (T : Nat → Nat → Nat) (r l t : Nat) (o i : Nat) : Nat := if o = r then (T l i * t) % p else if o = l then T r i else T o i
def elT (p : Nat) (T : Nat → Nat → Nat) (r k : Nat) (o i : Nat) : Nat := if r < o then (T o i + (p - T o k) * T r i) % p else T o i
theorem nI0 {n : Nat} (h : n < 2 ^ 31) : nI n = 0 ↔ n = 0 := ⟨fun z => by
  rcases Nat.eq_zero_or_pos n with q | q
  · exact q
  · exact absurd z (nI_ne0 q h), fun z => by rw [z]; rfl⟩
theorem nI_eq1 {n : Nat} (h : n < 2 ^ 31) : nI n = 1 ↔ n = 1 := ⟨fun z => by
  have : (nI n).toInt = (nI 1).toInt := by rw [z]; rfl
  rw [nI_toInt h, nI_toInt (by decide)] at this
  omega, fun z => by rw [z]; rfl⟩
theorem inv_p : ∀ p, p ∈ [2, 3, 5, 7] → ∀ v, v < p → 0 < v → ∃ t, t < p ∧ 1 ≤ t ∧ (t * v) % p = 1 ∧ ∀ s, s < t → 1 ≤ s → (s * v) % p ≠ 1 := by decide +kernel
theorem nI_neq {a b : Nat} (ha : a < 2 ^ 31) (hb : b < 2 ^ 31) (h : a ≠ b) : ¬ nI a = nI b := fun z => by
  have : (nI a).toInt = (nI b).toInt := by rw [z]
  rw [nI_toInt ha, nI_toInt hb] at this
  omega
theorem p7 {p : Nat} (hp : p ∈ [2, 3, 5, 7]) : 2 ≤ p ∧ p ≤ 7 := by
  simp only [List.mem_cons, List.not_mem_nil, or_false] at hp
  omega
section RKR
variable {st : OS} {w : Wd} {p : Nat}
theorem rk_fill (h : RWo st w.1 w.2) (hp : 2 ≤ p) (b1 : Int32) : ∃ x, lpv (f_X12_rankOf_2 b1) (st, 0) = some x ∧ Kp st x ∧ TB (x.2.2.1 30) w.2.length w.1 p (T0 w) := by
  have hn := h.2.2.1
  have hm := h.2.2.2.1
  have key := lpv_inv (f := f_X12_rankOf_2 b1) (fun l z => z.2 = nI l ∧ Kp st z.1 ∧ ∀ a i, a < l → i < w.1 → z.1.2.2.1 30 (64 * a + i) = nI (T0 w a i)) w.2.length (fun x => Kp st x ∧ ∀ a i, a < w.2.length → i < w.1 → x.2.2.1 30 (64 * a + i) = nI (T0 w a i)) (fun l z hl hI => Or.inl ?_) (fun z hI => ?_) 0 (st, 0) (Nat.zero_le _) ⟨rfl, Keep.rf, fun a i ha => by omega⟩
  · obtain ⟨x, e, k, g⟩ := key
    exact ⟨x, e, k, fun a i ha hi => ⟨g a i ha hi, by unfold T0; split <;> omega⟩⟩
  · obtain ⟨x, b⟩ := z
    obtain ⟨e1, e2, e3⟩ := hI
    dsimp only at e1 e2 e3
    subst e1
    have hx := h.kp e2
    have key2 := lpv_inv (f := f_X12_rankOf_12 b1 (nI l)) (fun j z => z.2 = nI j ∧ Kp st z.1 ∧ ∀ a i, (a < l ∨ a = l ∧ i < j) → i < w.1 → z.1.2.2.1 30 (64 * a + i) = nI (T0 w a i)) w.1 (fun x => Kp st x ∧ ∀ a i, a < l + 1 → i < w.1 → x.2.2.1 30 (64 * a + i) = nI (T0 w a i)) (fun j z hj hI => Or.inl ?_) (fun z hI => ?_) 0 (x, 0) (Nat.zero_le _) ⟨rfl, e2, fun a i ha hi => e3 a i (by omega) hi⟩
    · obtain ⟨y, f1, f2, f3⟩ := key2
      refine ⟨(y, nI (l + 1)), ?_, rfl, f2, f3⟩
      unfold f_X12_rankOf_2
      dsimp only
      rw [hx.2.1, if_neg (nI_ge hl (by omega)), f1, ob_s]
      simp only [bnd, nI_1]
    · obtain ⟨y, b⟩ := z
      obtain ⟨g1, g2, g3⟩ := hI
      dsimp only at g1 g2 g3
      subst g1
      have hy := h.kp g2
      have hst : f_X12_rankOf_12 b1 (nI l) (y, nI j) = some (.inl (oA y 30 (upd (y.2.2.1 30) (64 * l + j) (nI (T0 w l j))), nI (j + 1))) := by
        unfold f_X12_rankOf_12
        dsimp only
        rw [hy.1, if_neg (nI_ge hj (by omega)), if_pos (inb_t (by omega) (by omega)), nI_clamp (by omega), hy.2.2.2.2 l hl, has_12 (by omega), ob_s, i64m, nI_clamp (by omega)]
        simp only [bnd, nI_1]
        unfold T0
        cases tb (wl w.2 l) j with
        | true => rw [if_neg b2t, if_pos rfl, if_pos (inb_t (by omega) (by omega))]; rfl
        | false => rw [if_pos b2f, if_pos (inb_t (by omega) (by omega))]; rfl
      refine ⟨_, hst, rfl, Keep.oA g2 rfl, fun a i ha hi => ?_⟩
      dsimp only
      rw [oA_self]
      unfold upd
      by_cases q : 64 * a + i = 64 * l + j
      · rw [if_pos q]
        have h1 : a = l := by omega
        have h2 : i = j := by omega
        rw [h1, h2]
      · rw [if_neg q]
        exact g3 a i (by omega) hi
    · obtain ⟨y, b⟩ := z
      obtain ⟨g1, g2, g3⟩ := hI
      dsimp only at g1 g2 g3
      subst g1
      refine ⟨y, ?_, g2, fun a i ha hi => g3 a i (by omega) hi⟩
      unfold f_X12_rankOf_12
      dsimp only
      rw [(h.kp g2).1, if_pos (nI_le (Nat.le_refl _) (by omega))]
  · obtain ⟨x, b⟩ := z
    obtain ⟨e1, e2, e3⟩ := hI
    dsimp only at e1 e2 e3
    subst e1
    refine ⟨x, ?_, e2, e3⟩
    unfold f_X12_rankOf_2
    dsimp only
    rw [(h.kp e2).2.1, if_pos (nI_le (Nat.le_refl _) (by omega))]
theorem rk_find (h : RWo st w.1 w.2) {T : Nat → Nat → Nat} (hp : p ≤ 7) (hT : TB (st.2.2.1 30) w.2.length w.1 p T) (b1 : Int32) {r k : Nat} (hr : r < w.2.length) (hk : k < w.1) : ∃ l, lpv (f_X12_rankOf_84 st b1 (nI r) (nI k)) (nI r) = some (nI l) ∧ r ≤ l ∧ l ≤ w.2.length ∧ (∀ j, r ≤ j → j < l → T j k = 0) ∧ (l < w.2.length → T l k ≠ 0) := by
  have hn := h.2.2.1
  have hm := h.2.2.2.1
  have key := lpv_inv (f := f_X12_rankOf_84 st b1 (nI r) (nI k)) (fun i b => b = nI i ∧ r ≤ i ∧ ∀ j, r ≤ j → j < i → T j k = 0) w.2.length (fun v => ∃ l, v = nI l ∧ r ≤ l ∧ l ≤ w.2.length ∧ (∀ j, r ≤ j → j < l → T j k = 0) ∧ (l < w.2.length → T l k ≠ 0)) (fun i b hi hI => ?_) (fun b hI => ?_) r (nI r) (by omega) ⟨rfl, Nat.le_refl _, fun j a b => by omega⟩
  · obtain ⟨v, e, l, rfl, g⟩ := key
    exact ⟨l, e, g⟩
  · obtain ⟨e1, e2, e3⟩ := hI
    subst e1
    have hst : f_X12_rankOf_84 st b1 (nI r) (nI k) (nI i) = if T i k = 0 then some (.inl (nI (i + 1))) else some (.inr (nI i)) := by
      unfold f_X12_rankOf_84
      obtain ⟨g1, g2⟩ := hT i k hi hk
      rw [h.2.1, if_neg (nI_ge hi (by omega)), i64m, if_pos (inb_t (by omega) (by omega)), nI_clamp (by omega), g1]
      simp only [nI0 (show T i k < 2 ^ 31 by omega), bnd, nI_1]
    by_cases z : T i k = 0
    · left
      rw [if_pos z] at hst
      exact ⟨_, hst, rfl, by omega, fun j a b => by
        rcases Nat.lt_or_ge j i with q | q
        · exact e3 j a q
        · rw [show j = i by omega]; exact z⟩
    · right
      rw [if_neg z] at hst
      exact ⟨_, hst, i, rfl, e2, by omega, e3, fun _ => z⟩
  · obtain ⟨e1, e2, e3⟩ := hI
    subst e1
    refine ⟨nI w.2.length, ?_, w.2.length, rfl, e2, Nat.le_refl _, e3, fun z => by omega⟩
    unfold f_X12_rankOf_84
    rw [h.2.1, if_pos (nI_le (Nat.le_refl _) (by omega))]
theorem rk_turn (h : RWo st w.1 w.2) {T : Nat → Nat → Nat} (hp : p ∈ [2, 3, 5, 7]) (hT : TB (st.2.2.1 30) w.2.length w.1 p T) (b2 : Int32) {l k : Nat} (hl : l < w.2.length) (hk : k < w.1) (h0 : T l k ≠ 0) : ∃ t, lpv (f_X12_rankOf_129 st (nI p) b2 (nI k) (nI l)) 1 = some (nI t) ∧ t < p ∧ 1 ≤ t ∧ (t * T l k) % p = 1 := by
  have hn := h.2.2.1
  have hm := h.2.2.2.1
  obtain ⟨g1, g2⟩ := hT l k hl hk
  have hp7 := p7 hp
  obtain ⟨t, t1, t2, t3, t4⟩ := inv_p p hp _ g2 (by omega)
  refine ⟨t, ?_, t1, t2, t3⟩
  have hst : ∀ s, s < 8 → f_X12_rankOf_129 st (nI p) b2 (nI k) (nI l) (nI s) = if (s * T l k) % p = 1 then some (.inr (nI s)) else some (.inl (nI (s + 1))) := fun s hs => by
    have hb : s * T l k < 2 ^ 31 := by have := Nat.mul_le_mul (show s ≤ 8 by omega) (show T l k ≤ 7 by omega); omega
    have hmod := Nat.mod_lt (s * T l k) (show 0 < p by omega)
    unfold f_X12_rankOf_129
    rw [i64m, if_pos (inb_t (by omega) (by omega)), nI_clamp (by omega), g1, if_neg (nI_ne0 (show 0 < p by omega) (by omega)), pk_mul, pk_rem hb (by omega) (by omega)]
    simp only [nI_eq1 (show (s * T l k) % p < 2 ^ 31 by omega), bnd, nI_1]
  have key := lpv_from (f := f_X12_rankOf_129 st (nI p) b2 (nI k) (nI l)) (fun s => nI s) t (r := nI t) (a := 1) (fun s h1 h2 => by rw [hst s (by omega), if_neg (t4 s h2 h1)]) (by rw [hst t (by omega), if_pos t3]) t2
  exact key
theorem rk_swap (h : RWo st w.1 w.2) {T : Nat → Nat → Nat} (hp : p ∈ [2, 3, 5, 7]) (hT : TB (st.2.2.1 30) w.2.length w.1 p T) (b3 : Int32) {r l t : Nat} (hr : r < w.2.length) (hl : l < w.2.length) (ht : t < p) : ∃ x, lpv (f_X12_rankOf_159 (nI p) (nI r) b3 (nI l) (nI t)) (st, 0) = some x ∧ Kp st x ∧ TB (x.2.2.1 30) w.2.length w.1 p (swT p T r l t) := by
  have hn := h.2.2.1
  have hm := h.2.2.2.1
  have hp7 := p7 hp
  have key := lpv_inv (f := f_X12_rankOf_159 (nI p) (nI r) b3 (nI l) (nI t)) (fun i z => z.2 = nI i ∧ Kp st z.1 ∧ TB (z.1.2.2.1 30) w.2.length w.1 p (fun o c => if c < i then swT p T r l t o c else T o c)) w.1 (fun x => Kp st x ∧ TB (x.2.2.1 30) w.2.length w.1 p (swT p T r l t)) (fun i z hi hI => Or.inl ?_) (fun z hI => ?_) 0 (st, 0) (Nat.zero_le _) ⟨rfl, Keep.rf, fun a c ha hc => by dsimp only; rw [if_neg (by omega)]; exact hT a c ha hc⟩
  · exact key
  · obtain ⟨x, b⟩ := z
    obtain ⟨e1, e2, e3⟩ := hI
    dsimp only at e1 e2 e3
    subst e1
    have hx := h.kp e2
    obtain ⟨g1, g2⟩ := e3 l i hl hi
    obtain ⟨g3, g4⟩ := e3 r i hr hi
    simp only [Nat.lt_irrefl, if_false] at g1 g2 g3 g4
    have hb : T l i * t < 2 ^ 31 := by have := Nat.mul_le_mul (show T l i ≤ 7 by omega) (show t ≤ 7 by omega); omega
    have hmod := Nat.mod_lt (T l i * t) (show 0 < p by omega)
    refine ⟨(oA (oA x 30 (upd (x.2.2.1 30) (64 * l + i) (nI (T r i)))) 30 (upd (upd (x.2.2.1 30) (64 * l + i) (nI (T r i))) (64 * r + i) (nI (T l i * t % p))), nI (i + 1)), ?_, rfl, Keep.oA (Keep.oA e2 rfl) rfl, fun a c ha hc => ?_⟩
    · unfold f_X12_rankOf_159
      dsimp only
      rw [hx.1, if_neg (nI_ge hi (by omega)), i64m, i64m, if_pos (inb_t (by omega) (by omega)), nI_clamp (by omega), nI_clamp (by omega), g1, g3, if_neg (nI_ne0 (show 0 < p by omega) (by omega)), pk_mul, pk_rem hb (by omega) (by omega)]
      dsimp only [bnd]
      rw [if_pos (inb_t (by omega) (by omega)), oA_self, nI_1]
    · dsimp only
      rw [oA_self]
      unfold upd
      obtain ⟨f1, f2⟩ := e3 a c ha hc
      dsimp only at f1 f2
      by_cases q1 : 64 * a + c = 64 * r + i
      · have h1 : a = r := by omega
        have h2 : c = i := by omega
        rw [if_pos q1, h1, h2, if_pos (show i < i + 1 by omega)]
        unfold swT
        rw [if_pos rfl]
        exact ⟨rfl, hmod⟩
      · rw [if_neg q1]
        by_cases q2 : 64 * a + c = 64 * l + i
        · have h1 : a = l := by omega
          have h2 : c = i := by omega
          rw [if_pos q2, h1, h2, if_pos (show i < i + 1 by omega)]
          unfold swT
          rw [if_neg (show ¬ l = r by omega), if_pos rfl]
          exact ⟨rfl, g4⟩
        · rw [if_neg q2]
          by_cases q3 : c = i
          · rw [if_neg (show ¬ c < i by omega)] at f1 f2
            rw [if_pos (show c < i + 1 by omega)]
            unfold swT
            rw [if_neg (show ¬ a = r by omega), if_neg (show ¬ a = l by omega)]
            exact ⟨f1, f2⟩
          · by_cases q4 : c < i
            · rw [if_pos q4] at f1 f2
              rw [if_pos (show c < i + 1 by omega)]
              exact ⟨f1, f2⟩
            · rw [if_neg q4] at f1 f2
              rw [if_neg (show ¬ c < i + 1 by omega)]
              exact ⟨f1, f2⟩
  · obtain ⟨x, b⟩ := z
    obtain ⟨e1, e2, e3⟩ := hI
    dsimp only at e1 e2 e3
    subst e1
    refine ⟨x, ?_, e2, fun a c ha hc => ?_⟩
    · unfold f_X12_rankOf_159
      dsimp only
      rw [(h.kp e2).1, if_pos (nI_le (Nat.le_refl _) (by omega))]
    · have := e3 a c ha hc
      dsimp only at this
      rw [if_pos hc] at this
      exact this
theorem rk_row (h : RWo st w.1 w.2) {T : Nat → Nat → Nat} (hp : p ∈ [2, 3, 5, 7]) (hT : TB (st.2.2.1 30) w.2.length w.1 p T) (b3 : Int32) {r o v : Nat} (hr : r < o) (ho : o < w.2.length) (hv : v ≤ p) : ∃ x, lpv (f_X12_rankOf_266 (nI p) (nI r) b3 (nI o) (nI v)) (st, 0) = some x ∧ Kp st x ∧ TB (x.2.2.1 30) w.2.length w.1 p (fun a c => if a = o then (T o c + v * T r c) % p else T a c) := by
  have hn := h.2.2.1
  have hm := h.2.2.2.1
  have hp7 := p7 hp
  have key := lpv_inv (f := f_X12_rankOf_266 (nI p) (nI r) b3 (nI o) (nI v)) (fun i z => z.2 = nI i ∧ Kp st z.1 ∧ TB (z.1.2.2.1 30) w.2.length w.1 p (fun a c => if a = o ∧ c < i then (T o c + v * T r c) % p else T a c)) w.1 (fun x => Kp st x ∧ TB (x.2.2.1 30) w.2.length w.1 p (fun a c => if a = o then (T o c + v * T r c) % p else T a c)) (fun i z hi hI => Or.inl ?_) (fun z hI => ?_) 0 (st, 0) (Nat.zero_le _) ⟨rfl, Keep.rf, fun a c ha hc => by dsimp only; rw [if_neg (by omega)]; exact hT a c ha hc⟩
  · exact key
  · obtain ⟨x, b⟩ := z
    obtain ⟨e1, e2, e3⟩ := hI
    dsimp only at e1 e2 e3
    subst e1
    have hx := h.kp e2
    obtain ⟨g1, g2⟩ := e3 o i ho hi
    obtain ⟨g3, g4⟩ := e3 r i (by omega) hi
    dsimp only at g1 g2 g3 g4
    rw [if_neg (by omega)] at g1 g2 g3 g4
    have hb : T o i + v * T r i < 2 ^ 31 := by have := Nat.mul_le_mul (show v ≤ 7 by omega) (show T r i ≤ 7 by omega); omega
    have hmod := Nat.mod_lt (T o i + v * T r i) (show 0 < p by omega)
    refine ⟨(oA x 30 (upd (x.2.2.1 30) (64 * o + i) (nI ((T o i + v * T r i) % p))), nI (i + 1)), ?_, rfl, Keep.oA e2 rfl, fun a c ha hc => ?_⟩
    · unfold f_X12_rankOf_266
      dsimp only
      rw [hx.1, if_neg (nI_ge hi (by omega)), i64m, i64m, if_pos (inb_t (by omega) (by omega)), if_pos (inb_t (by omega) (by omega)), nI_clamp (by omega), nI_clamp (by omega), g1, g3, if_neg (nI_ne0 (show 0 < p by omega) (by omega)), pk_mul, nI_add, pk_rem hb (by omega) (by omega)]
      simp only [bnd, nI_1]
    · dsimp only
      rw [oA_self]
      unfold upd
      obtain ⟨f1, f2⟩ := e3 a c ha hc
      dsimp only at f1 f2
      by_cases q1 : 64 * a + c = 64 * o + i
      · have h1 : a = o := by omega
        have h2 : c = i := by omega
        rw [if_pos q1, h1, h2, if_pos ⟨rfl, by omega⟩]
        exact ⟨rfl, hmod⟩
      · rw [if_neg q1]
        by_cases q2 : a = o ∧ c < i
        · rw [if_pos q2] at f1 f2
          rw [if_pos ⟨q2.1, by omega⟩]
          exact ⟨f1, f2⟩
        · rw [if_neg q2] at f1 f2
          rw [if_neg (fun z => q2 ⟨z.1, by have := z.2; omega⟩)]
          exact ⟨f1, f2⟩
  · obtain ⟨x, b⟩ := z
    obtain ⟨e1, e2, e3⟩ := hI
    dsimp only at e1 e2 e3
    subst e1
    refine ⟨x, ?_, e2, fun a c ha hc => ?_⟩
    · unfold f_X12_rankOf_266
      dsimp only
      rw [(h.kp e2).1, if_pos (nI_le (Nat.le_refl _) (by omega))]
    · have := e3 a c ha hc
      dsimp only at this ⊢
      by_cases q : a = o
      · rw [if_pos q]; rw [if_pos ⟨q, hc⟩] at this; exact this
      · rw [if_neg q]; rw [if_neg (fun z => q z.1)] at this; exact this
theorem rk_elim (h : RWo st w.1 w.2) {T : Nat → Nat → Nat} (hp : p ∈ [2, 3, 5, 7]) (hT : TB (st.2.2.1 30) w.2.length w.1 p T) {r k : Nat} (hr : r < w.2.length) (hk : k < w.1) : ∃ x, lpv (f_X12_rankOf_238 (nI p) (nI r) (nI k)) (st, nI (r + 1)) = some x ∧ Kp st x ∧ TB (x.2.2.1 30) w.2.length w.1 p (elT p T r k) := by
  have hn := h.2.2.1
  have hm := h.2.2.2.1
  have hp7 := p7 hp
  have key := lpv_inv (f := f_X12_rankOf_238 (nI p) (nI r) (nI k)) (fun o z => z.2 = nI o ∧ r < o ∧ Kp st z.1 ∧ TB (z.1.2.2.1 30) w.2.length w.1 p (fun a c => if a < o then elT p T r k a c else T a c)) w.2.length (fun x => Kp st x ∧ TB (x.2.2.1 30) w.2.length w.1 p (elT p T r k)) (fun o z ho hI => Or.inl ?_) (fun z hI => ?_) (r + 1) (st, nI (r + 1)) (by omega) ⟨rfl, by omega, Keep.rf, fun a c ha hc => by
    dsimp only
    by_cases q : a < r + 1
    · rw [if_pos q]
      unfold elT
      rw [if_neg (by omega)]
      exact hT a c ha hc
    · rw [if_neg q]; exact hT a c ha hc⟩
  · exact key
  · obtain ⟨x, b⟩ := z
    obtain ⟨e1, e0, e2, e3⟩ := hI
    dsimp only at e1 e0 e2 e3
    subst e1
    have hx := h.kp e2
    obtain ⟨g1, g2⟩ := e3 o k ho hk
    dsimp only at g1 g2
    rw [if_neg (by omega)] at g1 g2
    obtain ⟨y, f1, f2, f3⟩ := rk_row hx hp e3 (nI k) (v := p - T o k) e0 ho (by omega)
    refine ⟨(y, nI (o + 1)), ?_, rfl, by omega, Keep.tr e2 f2, fun a c ha hc => ?_⟩
    · unfold f_X12_rankOf_238
      dsimp only
      rw [hx.2.1, if_neg (nI_ge ho (by omega)), i64m, if_pos (inb_t (by omega) (by omega)), nI_clamp (by omega), g1, pk_sub (by omega)]
      dsimp only [bnd]
      rw [f1, ob_s, nI_1]
    · have := f3 a c ha hc
      dsimp only at this ⊢
      by_cases q : a = o
      · rw [if_pos q, if_neg (show ¬ o < o by omega), if_pos e0] at this
        rw [q, if_pos (show o < o + 1 by omega)]
        unfold elT at this ⊢
        rw [if_pos e0]
        rw [if_neg (show ¬ r < r by omega)] at this
        rw [← q]; rw [← q] at this
        exact this
      · rw [if_neg q] at this
        by_cases q2 : a < o
        · rw [if_pos q2] at this
          rw [if_pos (show a < o + 1 by omega)]
          exact this
        · rw [if_neg q2] at this
          rw [if_neg (show ¬ a < o + 1 by omega)]
          exact this
  · obtain ⟨x, b⟩ := z
    obtain ⟨e1, e0, e2, e3⟩ := hI
    dsimp only at e1 e0 e2 e3
    subst e1
    refine ⟨x, ?_, e2, fun a c ha hc => ?_⟩
    · unfold f_X12_rankOf_238
      dsimp only
      rw [(h.kp e2).2.1, if_pos (nI_le (Nat.le_refl _) (by omega))]
    · have := e3 a c ha hc
      dsimp only at this
      rw [if_pos ha] at this
      exact this
/-- one column -/
theorem rk_step (h : RWo st w.1 w.2) {T : Nat → Nat → Nat} (hp : p ∈ [2, 3, 5, 7]) (hT : TB (st.2.2.1 30) w.2.length w.1 p T) {r k : Nat} (hr : r < w.2.length) (hk : k < w.1) : ((∀ l, r ≤ l → l < w.2.length → T l k = 0) ∧ f_X12_rankOf_65 (nI p) (st, nI r, nI k) = some (.inl (st, nI r, nI (k + 1)))) ∨ ∃ l t x, r ≤ l ∧ l < w.2.length ∧ T l k ≠ 0 ∧ (∀ j, r ≤ j → j < l → T j k = 0) ∧ t < p ∧ (t * T l k) % p = 1 ∧ f_X12_rankOf_65 (nI p) (st, nI r, nI k) = some (.inl (x, nI (r + 1), nI (k + 1))) ∧ Kp st x ∧ TB (x.2.2.1 30) w.2.length w.1 p (elT p (swT p T r l t) r k) := by
  have hn := h.2.2.1
  have hm := h.2.2.2.1
  have hp7 := p7 hp
  obtain ⟨l, e1, e2, e3, e4, e5⟩ := rk_find h hp7.2 hT (nI p) hr hk
  rcases Nat.lt_or_ge l w.2.length with hl | hl
  · right
    obtain ⟨t, t1, t2, t3, t4⟩ := rk_turn h hp hT (nI r) hl hk (e5 hl)
    obtain ⟨x, x1, x2, x3⟩ := rk_swap h hp hT (nI k) hr hl t2
    obtain ⟨y, y1, y2, y3⟩ := rk_elim (h.kp x2) hp x3 hr hk
    refine ⟨l, t, y, e2, hl, e5 hl, e4, t2, t4, ?_, Keep.tr x2 y2, y3⟩
    unfold f_X12_rankOf_65
    dsimp only
    rw [h.1, h.2.1, if_neg (nI_ge hk (by omega)), if_neg (nI_ge hr (by omega)), e1, ob_s, if_neg (nI_neq (a := l) (b := w.2.length) (by omega) (by omega) (by omega)), t1, ob_s, x1, ob_s]
    dsimp only [bnd]
    rw [nI_1, y1, ob_s, nI_1]
  · left
    have hle : l = w.2.length := by omega
    subst hle
    refine ⟨fun j a b => e4 j a b, ?_⟩
    unfold f_X12_rankOf_65
    dsimp only
    rw [h.1, h.2.1, if_neg (nI_ge hk (by omega)), if_neg (nI_ge hr (by omega)), e1, ob_s, if_pos rfl]
    simp only [bnd, nI_1]
end RKR
