/-! turnings: ways out of kinds of one; ways one behind the other -/
def kf (l : List Int64) (i : Nat) : Nat := fa_first (fun k => tb (wl l k) i) l.length
theorem kf_ok {N : Nat} {l : List Int64} (h : KG N l) {i : Nat} (hi : i < N) : kf l i < l.length ∧ tb (wl l (kf l i)) i = true := by
  have hlt : kf l i < l.length := by
    obtain ⟨k, h1, h2⟩ := h.2.1 i hi
    rcases Nat.lt_or_ge (kf l i) l.length with q | q
    · exact q
    · have := fa_first_no (fun k => tb (wl l k) i) l.length k (by unfold kf at q; omega)
      rw [h2] at this
      cases this
  exact ⟨hlt, fa_first_yes (fun k => tb (wl l k) i) l.length hlt⟩
theorem kf_eq {N : Nat} {l : List Int64} (h : KG N l) {k i : Nat} (hk : k < l.length) (hi : tb (wl l k) i = true) : kf l i = k := by
  obtain ⟨h1, h2⟩ := kf_ok h (h.1 k i hk hi)
  exact h.2.2 _ _ i h1 hk h2 hi
theorem cnt_fb (p : Nat → Bool) : ∀ n, cnt p n = fb_ct p n := by
  intro n
  induction n with
  | zero => rfl
  | succ n ih => rw [cnt_s, fb_ct_succ, ih]
/-- the way of points: each to the one of its kind -/
def piK (l m : List Int64) (p : Nat) : Nat := low (wl m (kf l p))
/-- the way of lines: the first of a kind to the first -/
def sgK (L M : List Int64) (i : Nat) : Nat := fa_first (fun j => tb (wl M (kf L i)) j && decide (cnt (tb (wl M (kf L i))) j = cnt (tb (wl L (kf L i))) i)) 64
theorem sgK_ok {N : Nat} {L M : List Int64} (hN : N ≤ 64) (h : KP N L M) {i : Nat} (hi : i < N) : tb (wl M (kf L i)) (sgK L M i) = true ∧ cnt (tb (wl M (kf L i))) (sgK L M i) = cnt (tb (wl L (kf L i))) i := by
  obtain ⟨h1, h2⟩ := kf_ok h.1 hi
  have h3 : cnt (tb (wl L (kf L i))) i < pcn (wl M (kf L i)) := by
    rw [← h.2.2.2.2 _ h1]
    unfold pcn
    have e : cnt (tb (wl L (kf L i))) (i + 1) = cnt (tb (wl L (kf L i))) i + 1 := by rw [cnt_s, if_pos h2]
    have := fb_ct_mono (tb (wl L (kf L i))) (show i + 1 ≤ 64 by omega)
    rw [← cnt_fb, ← cnt_fb] at this
    omega
  unfold pcn at h3
  rw [cnt_fb (tb (wl M (kf L i)))] at h3
  obtain ⟨j, j1, j2, j3⟩ := fb_ct_kth h3
  have hlt : sgK L M i < 64 := by
    rcases Nat.lt_or_ge (sgK L M i) 64 with q | q
    · exact q
    · have := fa_first_no (fun j => tb (wl M (kf L i)) j && decide (cnt (tb (wl M (kf L i))) j = cnt (tb (wl L (kf L i))) i)) 64 j (by unfold sgK at q; omega)
      rw [j2, cnt_fb (tb (wl M (kf L i))), j3, decide_eq_true rfl] at this
      cases this
  have := fa_first_yes (fun j => tb (wl M (kf L i)) j && decide (cnt (tb (wl M (kf L i))) j = cnt (tb (wl L (kf L i))) i)) 64 hlt
  rw [Bool.and_eq_true] at this
  exact ⟨this.1, of_decide_eq_true this.2⟩
theorem sgK_BJ {N : Nat} {L M : List Int64} (hN : N ≤ 64) (h : KP N L M) : BJ N (sgK L M) := by
  have hm := h.2.2.1
  refine ⟨fun i hi => ?_, fun i j hi hj e => ?_⟩
  · obtain ⟨h1, h2⟩ := kf_ok h.1 hi
    exact h.2.1.1 (kf L i) _ (by omega) (sgK_ok hN h hi).1
  · obtain ⟨a1, a2⟩ := kf_ok h.1 hi
    obtain ⟨b1, b2⟩ := kf_ok h.1 hj
    obtain ⟨c1, c2⟩ := sgK_ok hN h hi
    obtain ⟨d1, d2⟩ := sgK_ok hN h hj
    rw [← e] at d1 d2
    have hk := h.2.1.2.2 _ _ _ (by omega) (by omega) c1 d1
    rw [← hk] at d2 b2
    have h9 := c2.symm.trans d2
    rw [cnt_fb, cnt_fb] at h9
    exact fb_ct_kth_one a2 b2 h9
theorem one_in {x S : Int64} {p : Nat} (h : pcn x = 1) (hp : tb x p = true) : pcn (x &&& S) = if tb S p = true then 1 else 0 := by
  by_cases c : tb S p = true
  · rw [if_pos c]
    have h1 := pcn_and x S
    have h2 := pcn_pos (x := x &&& S) (i := p) (by rw [tb_and, hp, c]; rfl)
    omega
  · rw [if_neg c]
    rw [pcn_0]
    refine tb_ext (fun i _ => ?_)
    rw [tb_and, tb_0]
    cases hi : tb x i with
    | false => rfl
    | true =>
      rw [← one_el h hp hi]
      simpa using c
theorem iso_of {w v : Wd} {l m : List Int64} (hN : w.1 ≤ 16) (h64 : w.2.length ≤ 64) (h : KP w.1 l m) (hu : und l = none) (hS : STB w v l m) : ∃ σ, IS2 w v (piK l m) σ ∧ RSP (piK l m) l m := by
  obtain ⟨L, M, hP, hM⟩ := hS
  have hm := h.2.2.1
  have one : ∀ k, k < l.length → pcn (wl l k) = 1 := fun k hk => und_none h hN hu hk
  have one' : ∀ k, k < l.length → pcn (wl m k) = 1 := fun k hk => by rw [← h.2.2.2.2 k hk]; exact one k hk
  have hpi : ∀ p, p < w.1 → kf l p < l.length ∧ tb (wl l (kf l p)) p = true ∧ tb (wl m (kf l p)) (piK l m p) = true := fun p hp => by
    obtain ⟨h1, h2⟩ := kf_ok h.1 hp
    exact ⟨h1, h2, (low_tb (h.ne _ (by omega))).1⟩
  refine ⟨sgK L M, ⟨⟨fun p hp => ?_, fun p q hp hq e => ?_⟩, sgK_BJ h64 hP, fun p i hp hi => ?_⟩, fun k i hk hi => ?_⟩
  · obtain ⟨h1, h2, h3⟩ := hpi p hp
    exact h.2.1.1 _ _ (by omega) h3
  · obtain ⟨h1, h2, h3⟩ := hpi p hp
    obtain ⟨g1, g2, g3⟩ := hpi q hq
    rw [← e] at g3
    have := h.2.1.2.2 _ _ _ (by omega) (by omega) h3 g3
    rw [← this] at g2
    exact one_el (one _ h1) h2 g2
  · obtain ⟨h1, h2, h3⟩ := hpi p hp
    obtain ⟨k1, k2⟩ := kf_ok hP.1 hi
    have h9 := mrk_eq h (by omega) (hM (kf L i) i (sgK L M i) k1 k2 (sgK_ok h64 hP hi).1) h1
    rw [one_in (one _ h1) h2, one_in (one' _ h1) h3] at h9
    by_cases c : tb (wl w.2 i) p = true
    · rw [if_pos c] at h9
      by_cases d : tb (wl v.2 (sgK L M i)) (piK l m p) = true
      · rw [c, d]
      · rw [if_neg d] at h9; omega
    · rw [if_neg c] at h9
      by_cases d : tb (wl v.2 (sgK L M i)) (piK l m p) = true
      · rw [if_pos d] at h9; omega
      · rw [Bool.eq_false_iff.mpr c, Bool.eq_false_iff.mpr d]
  · obtain ⟨h1, h2, h3⟩ := hpi i (h.1.1 k i hk hi)
    rw [kf_eq h.1 hk hi] at h3
    exact h3
/-! ways one behind the other -/
theorem BJ.comp {N : Nat} {f g : Nat → Nat} (hf : BJ N f) (hg : BJ N g) : BJ N (fun i => f (g i)) := ⟨fun i hi => hf.1 _ (hg.1 i hi), fun i j hi hj e => hg.2 i j hi hj (hf.2 _ _ (hg.1 i hi) (hg.1 j hj) e)⟩
noncomputable def binv (N : Nat) (f : Nat → Nat) (j : Nat) : Nat := fa_first (fun i => decide (f i = j)) N
theorem binv_ok {N : Nat} {f : Nat → Nat} (h : BJ N f) {j : Nat} (hj : j < N) : binv N f j < N ∧ f (binv N f j) = j := by
  obtain ⟨i, h1, h2⟩ := h.onto hj
  have hlt : binv N f j < N := by
    rcases Nat.lt_or_ge (binv N f j) N with q | q
    · exact q
    · have := fa_first_no (fun i => decide (f i = j)) N i (by unfold binv at q; omega)
      rw [decide_eq_true h2] at this
      cases this
  exact ⟨hlt, of_decide_eq_true (fa_first_yes (fun i => decide (f i = j)) N hlt)⟩
theorem binv_l {N : Nat} {f : Nat → Nat} (h : BJ N f) {i : Nat} (hi : i < N) : binv N f (f i) = i := by
  obtain ⟨h1, h2⟩ := binv_ok h (h.1 i hi)
  exact h.2 _ _ h1 hi h2
theorem binv_BJ {N : Nat} {f : Nat → Nat} (h : BJ N f) : BJ N (binv N f) := ⟨fun j hj => (binv_ok h hj).1, fun i j hi hj e => by
  rw [← (binv_ok h hi).2, e, (binv_ok h hj).2]⟩
/-- a way of points that some way of lines goes with -/
def ISO (w v : Wd) (π : Nat → Nat) : Prop := ∃ σ, IS2 w v π σ
theorem ISO.bj {w v : Wd} {π : Nat → Nat} (h : ISO w v π) : BJ w.1 π := by
  obtain ⟨σ, h1, _⟩ := h
  exact h1
theorem ISO.id {w : Wd} : ISO w w (fun p => p) := ⟨fun i => i, BJ.id, BJ.id, fun _ _ _ _ => rfl⟩
theorem ISO.comp {w v u : Wd} {π ρ : Nat → Nat} (hv : v.1 = w.1) (hl : v.2.length = w.2.length) (h : ISO v u π) (g : ISO w v ρ) : ISO w u (fun p => π (ρ p)) := by
  obtain ⟨σ, h1, h2, h3⟩ := h
  obtain ⟨τ, g1, g2, g3⟩ := g
  rw [hv] at h1
  rw [hl] at h2
  refine ⟨fun i => σ (τ i), h1.comp g1, h2.comp g2, fun p i hp hi => ?_⟩
  rw [h3 (ρ p) (τ i) (by rw [hv]; exact g1.1 p hp) (by rw [hl]; exact g2.1 i hi), g3 p i hp hi]
theorem ISO.inv {w v : Wd} {π : Nat → Nat} (hv : v.1 = w.1) (hl : v.2.length = w.2.length) (h : ISO w v π) : ISO v w (binv w.1 π) := by
  obtain ⟨σ, h1, h2, h3⟩ := h
  refine ⟨binv w.2.length σ, by rw [hv]; exact binv_BJ h1, by rw [hl]; exact binv_BJ h2, fun p i hp hi => ?_⟩
  rw [hv] at hp
  rw [hl] at hi
  obtain ⟨a1, a2⟩ := binv_ok h1 hp
  obtain ⟨b1, b2⟩ := binv_ok h2 hi
  rw [← h3 _ _ a1 b1, a2, b2]
theorem ISO.cong {w v : Wd} {π ρ : Nat → Nat} (h : ISO w v π) (e : ∀ p, p < w.1 → ρ p = π p) : ISO w v ρ := by
  obtain ⟨σ, h1, h2, h3⟩ := h
  refine ⟨σ, ⟨fun p hp => by rw [e p hp]; exact h1.1 p hp, fun p q hp hq z => h1.2 p q hp hq (by rw [← e p hp, ← e q hq]; exact z)⟩, h2, fun p i hp hi => ?_⟩
  rw [e p hp]
  exact h3 p i hp hi
