/-! questions: ring. Distances, what closes a ring; a search that knows what it has seen -/
def DS (w : Wd) (s d b : Nat) : Prop := Rn w s d b ∧ ∀ j, j < d → ¬ Rn w s j b
theorem on_lt {w : Wd} {a b : Nat} (h : onB w a b = true) : (w.1 ≤ a ∧ b < w.1 ∧ a < nod w) ∨ (a < w.1 ∧ w.1 ≤ b ∧ b < nod w) := by
  have key : ∀ i j, tb (wl w.2 i) j = true → i < w.2.length := fun i j z => by
    rcases Nat.lt_or_ge i w.2.length with q | q
    · exact q
    · rw [wl_out q, tb_0] at z; cases z
  unfold onB at h
  unfold nod
  by_cases c : w.1 ≤ a
  · rw [if_pos c] at h
    by_cases d : w.1 ≤ b
    · rw [if_pos d] at h; cases h
    · rw [if_neg d] at h
      have := key _ _ h
      exact Or.inl ⟨c, by omega, by omega⟩
  · rw [if_neg c] at h
    by_cases d : b < w.1
    · rw [if_pos d] at h; cases h
    · rw [if_neg d] at h
      have := key _ _ h
      exact Or.inr ⟨by omega, by omega, by omega⟩
theorem on_l {w : Wd} {a b : Nat} (h : onB w a b = true) : a < nod w := by
  rcases on_lt h with ⟨_, _, q⟩ | ⟨q, _, _⟩
  · exact q
  · unfold nod; omega
theorem on_sym {w : Wd} {a b : Nat} (h : onB w a b = true) : onB w b a = true := by
  have h1 := on_lt h
  unfold onB at h ⊢
  by_cases c : w.1 ≤ a
  · rw [if_pos c, if_neg (by omega)] at h
    rw [if_neg (by omega), if_neg (by omega)]
    exact h
  · rw [if_neg c, if_neg (by omega)] at h
    rw [if_pos (by omega), if_neg (by omega)]
    exact h
theorem on_r {w : Wd} {a b : Nat} (h : onB w a b = true) : b < nod w := on_l (on_sym h)
theorem rn_ext {w : Wd} {s d a b : Nat} (h : Rn w s d a) (ho : onB w a b = true) : Rn w s (d + 1) b := Or.inr ⟨on_r ho, a, on_l ho, h, ho⟩
theorem DS.uniq {w : Wd} {s d e b : Nat} (h : DS w s d b) (k : DS w s e b) : d = e := by
  rcases Nat.lt_trichotomy d e with q | q | q
  · exact absurd h.1 (k.2 d q)
  · exact q
  · exact absurd k.1 (h.2 e q)
theorem ds_ex {w : Wd} {s b : Nat} : ∀ {j : Nat}, Rn w s j b → ∃ d, d ≤ j ∧ DS w s d b := by
  intro j
  induction j with
  | zero => intro h; exact ⟨0, Nat.le_refl _, h, fun j hj => by omega⟩
  | succ j ih =>
    intro h
    by_cases q : Rn w s j b
    · obtain ⟨d, h1, h2⟩ := ih q
      exact ⟨d, by omega, h2⟩
    · exact ⟨j + 1, Nat.le_refl _, h, fun i hi z => q (z.up (by omega))⟩
theorem DS.le {w : Wd} {s d j b : Nat} (h : DS w s d b) (k : Rn w s j b) : d ≤ j := by
  rcases Nat.lt_or_ge j d with q | q
  · exact absurd k (h.2 j q)
  · exact q
theorem DS.pred {w : Wd} {s d b : Nat} (h : DS w s (d + 1) b) : ∃ a, DS w s d a ∧ onB w a b = true := by
  rcases h.1 with z | ⟨hb, a, ha, h1, h2⟩
  · exact absurd z (h.2 d (by omega))
  · refine ⟨a, ⟨h1, fun j hj z => ?_⟩, h2⟩
    exact h.2 (j + 1) (by omega) (rn_ext z h2)
theorem DS.nb {w : Wd} {s d e a b : Nat} (h : DS w s d a) (k : DS w s e b) (ho : onB w a b = true) : e ≤ d + 1 := k.le (rn_ext h.1 ho)
theorem DS.par {w : Wd} {s : Nat} : ∀ {d b : Nat}, DS w s d b → (d % 2 = 0 ↔ (w.1 ≤ s ↔ w.1 ≤ b)) := by
  intro d
  induction d with
  | zero =>
    intro b h
    have : b = s := h.1
    rw [this]
    simp
  | succ d ih =>
    intro b h
    obtain ⟨a, h1, h2⟩ := h.pred
    have h3 := ih h1
    have h4 := on_lt h2
    by_cases c : w.1 ≤ s
    · simp only [c, true_iff] at h3 ⊢
      omega
    · simp only [c, false_iff] at h3 ⊢
      omega
theorem ds_ne {w : Wd} {s d e a b : Nat} (h : DS w s d a) (k : DS w s e b) (ho : onB w a b = true) : d ≠ e := by
  intro z
  subst z
  have h1 := h.par
  have h2 := k.par
  have h3 := on_lt ho
  by_cases c : w.1 ≤ s
  · simp only [c, true_iff] at h1 h2
    omega
  · simp only [c, false_iff] at h1 h2
    omega
theorem ds_adj {w : Wd} {s d e a b : Nat} (h : DS w s d a) (k : DS w s e b) (ho : onB w a b = true) : e = d + 1 ∨ d = e + 1 := by
  have := ds_ne h k ho
  have := h.nb k ho
  have := k.nb h (on_sym ho)
  omega
/-- the first step -/
theorem rn_first {w : Wd} {s : Nat} : ∀ {j b : Nat}, Rn w s (j + 1) b → b = s ∨ ∃ x, onB w s x = true ∧ Rn w x j b := by
  intro j
  induction j with
  | zero =>
    rintro b (h | ⟨hb, a, ha, h1, h2⟩)
    · exact Or.inl h
    · have : a = s := h1
      subst this
      exact Or.inr ⟨b, h2, rfl⟩
  | succ j ih =>
    rintro b (h | ⟨hb, a, ha, h1, h2⟩)
    · rcases ih h with q | ⟨x, q1, q2⟩
      · exact Or.inl q
      · exact Or.inr ⟨x, q1, q2.up (by omega)⟩
    · rcases ih h1 with q | ⟨x, q1, q2⟩
      · subst q
        exact Or.inr ⟨b, h2, Rn.up (i := 0) rfl (by omega)⟩
      · exact Or.inr ⟨x, q1, rn_ext q2 h2⟩
theorem rn_bk {w : Wd} {s x : Nat} (ho : onB w s x = true) : ∀ {j b : Nat}, Rn w x j b → Rn w s (j + 1) b := by
  intro j
  induction j with
  | zero =>
    intro b h
    have : b = x := h
    subst this
    exact rn_ext (d := 0) rfl ho
  | succ j ih =>
    rintro b (h | ⟨hb, a, ha, h1, h2⟩)
    · exact (ih h).up (by omega)
    · exact rn_ext (ih h1) h2
/-- a node with two nodes ahead of it: a ring of twice its distance -/
def PP (w : Wd) (s D : Nat) : Prop := ∃ b a a', a ≠ a' ∧ onB w a b = true ∧ onB w a' b = true ∧ DS w s D a ∧ DS w s D a' ∧ DS w s (D + 1) b
theorem pp_pt {w : Wd} {k D : Nat} (hk : w.1 ≤ k) (h : PP w k D) : ∃ p D', p < w.1 ∧ D' ≤ D ∧ PP w p D' := by
  obtain ⟨b, a, a', hne, h1, h2, d1, d2, d3⟩ := h
  cases D with
  | zero =>
    have e1 : a = k := d1.1
    have e2 : a' = k := d2.1
    exact absurd (e1.trans e2.symm) hne
  | succ D =>
    rcases rn_first d1.1 with q | ⟨x, hx, hr⟩
    · subst q
      exact absurd (show Rn w a 0 a from rfl) (d1.2 0 (by omega))
    have hx1 : x < w.1 := by
      rcases on_lt hx with ⟨_, q, _⟩ | ⟨q, _, _⟩
      · exact q
      · omega
    have low : ∀ {e c j}, DS w k (e + 1) c → Rn w x j c → e ≤ j := fun z r => by
      have := z.le (rn_bk hx r)
      omega
    have e1 : DS w x D a := ⟨hr, fun j hj z => by have := low d1 z; omega⟩
    have e2 : DS w x (D + 1) b := ⟨rn_ext hr h1, fun j hj z => by have := low d3 z; omega⟩
    obtain ⟨e, he, e3⟩ := ds_ex (rn_ext e2.1 (on_sym h2))
    have h3 := ds_adj e3 e2 h2
    rcases h3 with q | q
    · have : e = D := by omega
      subst this
      exact ⟨x, e, hx1, by omega, b, a, a', hne, h1, h2, e1, e3, e2⟩
    · have : e = D + 2 := by omega
      subst this
      obtain ⟨z, z1, z2⟩ := d2.pred
      have hzb : b ≠ z := fun q => by
        rw [q] at d3
        have := d3.uniq z1
        omega
      obtain ⟨e', he', e4⟩ := ds_ex (rn_bk (on_sym hx) z1.1)
      have h5 := e4.nb e3 z2
      have : e' = D + 1 := by omega
      subst this
      exact ⟨x, D + 1, hx1, Nat.le_refl _, a', b, z, hzb, on_sym h2, z2, e2, e4, e3⟩
/-- the search: e nodes seen, i of them done, of the next one what is below m -/
def BG (w : Wd) (s i m e : Nat) (qn qd qb : Nat → Nat) : Prop :=
  (0 < e) ∧ (qn 0 = s) ∧ (∀ q, q < e → qn q < nod w) ∧ (∀ q k, q < e → k < e → qn q = qn k → q = k) ∧ (∀ q, q < e → DS w s (qd q) (qn q)) ∧ (∀ q k, q ≤ k → k < e → qd q ≤ qd k) ∧ (i < e → ∀ q, q < e → qd q ≤ qd i + 1) ∧ (∀ q, q < i → ∀ b, onB w (qn q) b = true → ∃ k, k < e ∧ qn k = b) ∧ (i < e → ∀ b, b < m → onB w (qn i) b = true → ∃ k, k < e ∧ qn k = b) ∧ (∀ q, 0 < q → q < e → qb q < q ∧ onB w (qn (qb q)) (qn q) = true ∧ qd q = qd (qb q) + 1 ∧ (qb q < i ∨ (qb q = i ∧ qn q < m))) ∧ (i ≤ e)
section BGP
variable {w : Wd} {s i m e : Nat} {qn qd qb : Nat → Nat}
theorem BG.h0 (B : BG w s i m e qn qd qb) : 0 < e := B.1
theorem BG.hs (B : BG w s i m e qn qd qb) : qn 0 = s := B.2.1
theorem BG.hn (B : BG w s i m e qn qd qb) : ∀ q, q < e → qn q < nod w := B.2.2.1
theorem BG.hi (B : BG w s i m e qn qd qb) : ∀ q k, q < e → k < e → qn q = qn k → q = k := B.2.2.2.1
theorem BG.hd (B : BG w s i m e qn qd qb) : ∀ q, q < e → DS w s (qd q) (qn q) := B.2.2.2.2.1
theorem BG.hm (B : BG w s i m e qn qd qb) : ∀ q k, q ≤ k → k < e → qd q ≤ qd k := B.2.2.2.2.2.1
theorem BG.h1 (B : BG w s i m e qn qd qb) : i < e → ∀ q, q < e → qd q ≤ qd i + 1 := B.2.2.2.2.2.2.1
theorem BG.hp (B : BG w s i m e qn qd qb) : ∀ q, q < i → ∀ b, onB w (qn q) b = true → ∃ k, k < e ∧ qn k = b := B.2.2.2.2.2.2.2.1
theorem BG.hc (B : BG w s i m e qn qd qb) : i < e → ∀ b, b < m → onB w (qn i) b = true → ∃ k, k < e ∧ qn k = b := B.2.2.2.2.2.2.2.2.1
theorem BG.hb (B : BG w s i m e qn qd qb) : ∀ q, 0 < q → q < e → qb q < q ∧ onB w (qn (qb q)) (qn q) = true ∧ qd q = qd (qb q) + 1 ∧ (qb q < i ∨ (qb q = i ∧ qn q < m)) := B.2.2.2.2.2.2.2.2.2.1
theorem BG.hie (B : BG w s i m e qn qd qb) : i ≤ e := B.2.2.2.2.2.2.2.2.2.2
theorem BG.qdle (B : BG w s i m e qn qd qb) : ∀ q, q < e → qd q ≤ q := by
  intro q
  induction q using Nat.strongRecOn with
  | _ q ih =>
    intro hq
    rcases Nat.eq_zero_or_pos q with z | z
    · subst z
      have := B.hd 0 hq
      rw [B.hs] at this
      have := this.le (j := 0) rfl
      omega
    · obtain ⟨b1, _, b3, _⟩ := B.hb q z hq
      have := ih (qb q) b1 (by omega)
      omega
theorem BG.en (B : BG w s i m e qn qd qb) : e ≤ nod w := fb_holes _ _ qn B.hn (fun a b hab hb z => by have := B.hi a b (by omega) hb z; omega)
/-- all nearer ones are seen -/
theorem BG.full (B : BG w s i m e qn qd qb) {D : Nat} (hD : ∀ q, q < e → qd q < D → q < i) : ∀ j, j ≤ D → ∀ b, Rn w s j b → ∃ k, k < e ∧ qn k = b := by
  intro j
  induction j with
  | zero => intro _ b hb; exact ⟨0, B.h0, B.hs.trans hb.symm⟩
  | succ j ih =>
    intro hj b hb
    rcases hb with hb | ⟨hb, a, ha, h1, h2⟩
    · exact ih (by omega) b hb
    · obtain ⟨k, hk, e1⟩ := ih (by omega) a h1
      subst e1
      have h3 := (B.hd k hk).le h1
      exact B.hp k (hD k hk (by omega)) b h2
theorem BG.fullAt (B : BG w s i m e qn qd qb) (hie : i < e) : ∀ j, j ≤ qd i → ∀ b, Rn w s j b → ∃ k, k < e ∧ qn k = b :=
  B.full (fun q hq h => by
    rcases Nat.lt_or_ge q i with c | c
    · exact c
    · have := B.hm i q c hq; omega)
end BGP
/-- what closed so far is counted -/
def VC (w : Wd) (i m e : Nat) (qn qd qb : Nat → Nat) (v : Nat) : Prop := ∀ q k, q < e → k < e → (q < i ∨ (q = i ∧ qn k < m)) → onB w (qn q) (qn k) = true → (0 < k ∧ qb k = q) ∨ (0 < q ∧ qb q = k) ∨ v ≤ qd q + qd k + 1
def ST (w : Wd) (s L i m e : Nat) (qn qd qb : Nat → Nat) (v : Nat) : Prop := BG w s i m e qn qd qb ∧ VC w i m e qn qd qb v ∧ (v = L ∨ ∃ D, v = 2 * (D + 1) ∧ PP w s D) ∧ v ≤ L
section STP
variable {w : Wd} {s L i m e v : Nat} {qn qd qb : Nat → Nat}
theorem ST.init (hs : s < nod w) : ST w s L 0 0 1 (fun _ => s) (fun _ => 0) (fun _ => 0) L := by
  refine ⟨⟨by omega, rfl, fun _ _ => hs, fun q k hq hk _ => by omega, fun q _ => ⟨rfl, fun j hj => absurd hj (Nat.not_lt_zero _)⟩, fun _ _ _ _ => Nat.le_refl _, fun _ _ _ => Nat.zero_le _, fun q hq => by omega, fun _ b hb => by omega, fun q h1 h2 => by omega, by omega⟩, fun q k hq hk h => by omega, Or.inl rfl, Nat.le_refl _⟩
theorem ST.skip (S : ST w s L i m e qn qd qb v) {m' : Nat} (hm : ∀ b, m ≤ b → b < m' → onB w (qn i) b = false) (hmm : m ≤ m') : ST w s L i m' e qn qd qb v := by
  obtain ⟨B, C, D⟩ := S
  refine ⟨⟨B.h0, B.hs, B.hn, B.hi, B.hd, B.hm, B.h1, B.hp, fun hi b hb ho => ?_, fun q h1 h2 => ?_, B.hie⟩, fun q k hq hk h ho => ?_, D⟩
  · rcases Nat.lt_or_ge b m with q | q
    · exact B.hc hi b q ho
    · rw [hm b q hb] at ho; cases ho
  · obtain ⟨b1, b2, b3, b4⟩ := B.hb q h1 h2
    exact ⟨b1, b2, b3, by omega⟩
  · rcases h with h | ⟨h, h2⟩
    · exact C q k hq hk (Or.inl h) ho
    · subst h
      rcases Nat.lt_or_ge (qn k) m with z | z
      · exact C q k hq hk (Or.inr ⟨rfl, z⟩) ho
      · rw [hm _ z h2] at ho; cases ho
/-- a node that is seen already: what it closes is counted -/
theorem ST.seen (S : ST w s L i m e qn qd qb v) {k v' : Nat} (hk : k < e) (hm : m = qn k) (hv : (0 < i ∧ qb i = k) ∨ v' ≤ qd i + qd k + 1) (hvv : v' ≤ v) (hs : v' = L ∨ ∃ D, v' = 2 * (D + 1) ∧ PP w s D) : ST w s L i (m + 1) e qn qd qb v' := by
  obtain ⟨B, C, D, E⟩ := S
  refine ⟨⟨B.h0, B.hs, B.hn, B.hi, B.hd, B.hm, B.h1, B.hp, fun hi b hb ho => ?_, fun q h1 h2 => ?_, B.hie⟩, fun q j hq hj h ho => ?_, hs, by omega⟩
  · rcases Nat.lt_or_ge b m with q | q
    · exact B.hc hi b q ho
    · exact ⟨k, hk, by omega⟩
  · obtain ⟨b1, b2, b3, b4⟩ := B.hb q h1 h2
    exact ⟨b1, b2, b3, by omega⟩
  · by_cases z : q < i ∨ (q = i ∧ qn j < m)
    · rcases C q j hq hj z ho with y | y | y
      · exact Or.inl y
      · exact Or.inr (Or.inl y)
      · exact Or.inr (Or.inr (by omega))
    · have h1 : q = i ∧ qn j = m := by omega
      have h2 : j = k := B.hi j k hj hk (by omega)
      rw [h1.1, h2]
      rcases hv with y | y
      · exact Or.inr (Or.inl y)
      · exact Or.inr (Or.inr y)
/-- what a seen node closes -/
theorem ST.ring (S : ST w s L i m e qn qd qb v) {k : Nat} (hi : i < e) (hk : k < e) (hm : m = qn k) (ho : onB w (qn i) m = true) (hne : ¬ (0 < i ∧ qb i = k)) : ∃ D, qd i + qd k + 1 = 2 * (D + 1) ∧ PP w s D := by
  obtain ⟨B, C, D, E⟩ := S
  rw [hm] at ho
  have d1 := B.hd i hi
  have d2 := B.hd k hk
  rcases ds_adj d1 d2 ho with q | q
  · have hk0 : 0 < k := by
      rcases Nat.eq_zero_or_pos k with z | z
      · subst z
        have := B.qdle 0 hk
        omega
      · exact z
    obtain ⟨b1, b2, b3, b4⟩ := B.hb k hk0 hk
    have hbk : qb k ≠ i := fun z => by omega
    refine ⟨qd i, by omega, qn k, qn i, qn (qb k), fun z => hbk (B.hi _ _ hi (by omega) z).symm, ho, b2, d1, ?_, by rw [← q]; exact d2⟩
    have := B.hd (qb k) (by omega)
    rw [show qd (qb k) = qd i by omega] at this
    exact this
  · have hi0 : 0 < i := by
      rcases Nat.eq_zero_or_pos i with z | z
      · subst z
        have := B.qdle 0 hi
        omega
      · exact z
    obtain ⟨b1, b2, b3, b4⟩ := B.hb i hi0 hi
    refine ⟨qd k, by omega, qn i, qn k, qn (qb i), fun z => hne ⟨hi0, (B.hi _ _ hk (by omega) z).symm⟩, on_sym ho, b2, d2, ?_, by rw [← q]; exact d1⟩
    have := B.hd (qb i) (by omega)
    rw [show qd (qb i) = qd k by omega] at this
    exact this
theorem ST.add (S : ST w s L i m e qn qd qb v) (hie : i < e) (ho : onB w (qn i) m = true) (hnew : ∀ q, q < e → qn q ≠ m) : ST w s L i (m + 1) (e + 1) (upN qn e m) (upN qd e (qd i + 1)) (upN qb e i) v := by
  obtain ⟨B, C, D⟩ := S
  have hlt : ∀ {f : Nat → Nat} {v q : Nat}, q < e → upN f e v q = f q := fun {f v q} h => if_neg (by omega)
  have heq : ∀ {f : Nat → Nat} {v : Nat}, upN f e v e = v := if_pos rfl
  refine ⟨⟨by omega, ?_, fun q hq => ?_, fun q k hq hk h => ?_, fun q hq => ?_, fun q k hqk hk => ?_, fun _ q hq => ?_, fun q hq c h => ?_, fun _ c hc h => ?_, fun q h1 h2 => ?_, by omega⟩, fun q k hq hk h hon => ?_, D⟩
  · rw [hlt B.h0]; exact B.hs
  · by_cases c : q = e
    · rw [c, heq]; exact on_r ho
    · rw [hlt (by omega)]; exact B.hn q (by omega)
  · by_cases c : q = e <;> by_cases d : k = e
    · omega
    · rw [c, heq, hlt (by omega)] at h
      exact absurd h.symm (hnew k (by omega))
    · rw [d, heq, hlt (by omega)] at h
      exact absurd h (hnew q (by omega))
    · rw [hlt (by omega), hlt (by omega)] at h
      exact B.hi q k (by omega) (by omega) h
  · by_cases c : q = e
    · rw [c, heq, heq]
      refine ⟨rn_ext (B.hd i hie).1 ho, fun j hj hR => ?_⟩
      obtain ⟨k, hk, ek⟩ := B.fullAt hie j (by omega) m hR
      exact hnew k hk ek
    · rw [hlt (by omega), hlt (by omega)]
      exact B.hd q (by omega)
  · by_cases d : k = e
    · rw [d, heq]
      by_cases c : q = e
      · rw [c, heq]; exact Nat.le_refl _
      · rw [hlt (by omega)]; exact B.h1 hie q (by omega)
    · rw [hlt (by omega), hlt (by omega)]
      exact B.hm q k hqk (by omega)
  · rw [hlt hie]
    by_cases c : q = e
    · rw [c, heq]; exact Nat.le_refl _
    · rw [hlt (by omega)]; exact B.h1 hie q (by omega)
  · rw [hlt (by omega)] at h
    obtain ⟨k, hk, z⟩ := B.hp q hq c h
    exact ⟨k, by omega, by rw [hlt hk]; exact z⟩
  · rw [hlt hie] at h
    rcases Nat.lt_or_ge c m with z | z
    · obtain ⟨k, hk, y⟩ := B.hc hie c z h
      exact ⟨k, by omega, by rw [hlt hk]; exact y⟩
    · exact ⟨e, by omega, by rw [heq]; omega⟩
  · by_cases c : q = e
    · rw [c, heq, heq, heq, hlt hie, hlt hie]
      exact ⟨hie, ho, rfl, Or.inr ⟨rfl, by omega⟩⟩
    · obtain ⟨b1, b2, b3, b4⟩ := B.hb q h1 (by omega)
      rw [hlt (show q < e by omega), hlt (show q < e by omega), hlt (show q < e by omega), hlt (show qb q < e by omega), hlt (show qb q < e by omega)]
      exact ⟨b1, b2, b3, by omega⟩
  · by_cases c : q = e
    · omega
    · by_cases d : k = e
      · rw [d, heq, hlt (by omega)] at hon
        rw [d, heq]
        rcases h with h | ⟨h, _⟩
        · obtain ⟨j, hj, z⟩ := B.hp q h m hon
          exact absurd z (hnew j hj)
        · exact Or.inl ⟨by omega, h.symm⟩
      · rw [hlt (show q < e by omega), hlt (show k < e by omega)] at hon
        rw [hlt (show k < e by omega)] at h
        rw [hlt (show q < e by omega), hlt (show k < e by omega), hlt (show q < e by omega), hlt (show k < e by omega)]
        refine C q k (by omega) (by omega) ?_ hon
        have := hnew k (by omega)
        omega
theorem ST.next (S : ST w s L i m e qn qd qb v) (hie : i < e) (hm : ∀ b, m ≤ b → onB w (qn i) b = false) : ST w s L (i + 1) 0 e qn qd qb v := by
  have hno : ∀ b, onB w (qn i) b = true → b < m := fun b z => by
    rcases Nat.lt_or_ge b m with q | q
    · exact q
    · rw [hm b q] at z; cases z
  obtain ⟨B, C, D⟩ := S
  refine ⟨⟨B.h0, B.hs, B.hn, B.hi, B.hd, B.hm, fun hi q hq => ?_, fun q hq b ho => ?_, fun _ b hb => by omega, fun q h1 h2 => ?_, by omega⟩, fun q k hq hk h ho => ?_, D⟩
  · have h1 := B.h1 hie q hq
    have h2 := B.hm i (i + 1) (by omega) hi
    omega
  · rcases Nat.lt_or_ge q i with z | z
    · exact B.hp q z b ho
    · have : q = i := by omega
      subst this
      exact B.hc hie b (hno b ho) ho
  · obtain ⟨b1, b2, b3, b4⟩ := B.hb q h1 h2
    exact ⟨b1, b2, b3, by omega⟩
  · refine C q k hq hk ?_ ho
    rcases Nat.lt_or_ge q i with z | z
    · exact Or.inl z
    · have : q = i := by omega
      subst this
      exact Or.inr ⟨rfl, hno _ ho⟩
theorem ST.fin (S : ST w s L i 0 e qn qd qb v) (h : i = e ∨ v ≤ 2 * qd i + 2) : ∀ D, PP w s D → v ≤ 2 * (D + 1) := by
  obtain ⟨B, C, E⟩ := S
  intro D ⟨b, a, a', hne, o1, o2, d1, d2, d3⟩
  by_cases c : i < e ∧ qd i ≤ D
  · rcases h with h | h <;> omega
  · have hall : ∀ x, DS w s D x → ∃ k, k < i ∧ k < e ∧ qn k = x ∧ qd k = D := fun x hx => by
      by_cases q : i < e
      · obtain ⟨k, hk, ek⟩ := B.fullAt q D (by omega) x hx.1
        have h1 := B.hd k hk
        rw [ek] at h1
        have h2 := h1.uniq hx
        refine ⟨k, ?_, hk, ek, h2⟩
        rcases Nat.lt_or_ge k i with z | z
        · exact z
        · have := B.hm i k z hk
          omega
      · obtain ⟨k, hk, ek⟩ := B.full (D := D) (fun q hq _ => by omega) D (Nat.le_refl _) x hx.1
        have h1 := B.hd k hk
        rw [ek] at h1
        exact ⟨k, by omega, hk, ek, h1.uniq hx⟩
    obtain ⟨k, k1, k2, k3, k4⟩ := hall a d1
    obtain ⟨k', l1, l2, l3, l4⟩ := hall a' d2
    subst k3 l3
    obtain ⟨j, hj, ej⟩ := B.hp k k1 b o1
    subst ej
    have hjd := (B.hd j hj).uniq d3
    have nb : ∀ x, x < e → qd x = D → ¬ (0 < x ∧ qb x = j) := fun x hx hxd ⟨z1, z2⟩ => by
      obtain ⟨b1, b2, b3, b4⟩ := B.hb x z1 hx
      rw [z2] at b3
      omega
    rcases C k j k2 hj (Or.inl k1) o1 with q | q | q
    · rcases C k' j l2 hj (Or.inl l1) o2 with r | r | r
      · exact absurd (by rw [← q.2, ← r.2]) hne
      · exact absurd r (nb k' l2 l4)
      · omega
    · exact absurd q (nb k k2 k4)
    · omega
end STP
